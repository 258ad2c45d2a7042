/-! locals and stack, and the instructions that leave the heap as it is -/
theorem sd_oi (h : sd_H) (x : Int32) : sd_ok h (.inl x) := fun t k e => by cases e
theorem sd_olg (h : sd_H) (x : Int64) : sd_ok h (.inr (.inl x)) := fun t k e => by cases e
theorem sd_onl (h : sd_H) (t : Nat) : sd_ok h (.inr (.inr (t, none))) := fun t k e => by cases e
theorem sd_oc {h : sd_H} {v : sd_V} {r : List sd_V} (a : sd_ok h v) (b : ∀ w ∈ r, sd_ok h w) : ∀ w ∈ v :: r, sd_ok h w := List.forall_mem_cons.mpr ⟨a, b⟩
theorem sd_o0 {h : sd_H} {v : sd_V} {r : List sd_V} (a : ∀ w ∈ v :: r, sd_ok h w) : sd_ok h v := (List.forall_mem_cons.mp a).1
theorem sd_o1 {h : sd_H} {v : sd_V} {r : List sd_V} (a : ∀ w ∈ v :: r, sd_ok h w) : ∀ w ∈ r, sd_ok h w := (List.forall_mem_cons.mp a).2
theorem sd_o2 {h : sd_H} {v u : sd_V} {r : List sd_V} (a : ∀ w ∈ v :: u :: r, sd_ok h w) : ∀ w ∈ r, sd_ok h w := sd_o1 (sd_o1 a)
theorem sd_o3 {h : sd_H} {v u x : sd_V} {r : List sd_V} (a : ∀ w ∈ v :: u :: x :: r, sd_ok h w) : ∀ w ∈ r, sd_ok h w := sd_o1 (sd_o2 a)
def sd_g (ls : List (Option sd_V)) (i : Nat) : Option sd_V := match sd_nth ls i with
  | some (some v) => some v
  | _ => none
theorem sd_g_nth {ls : List (Option sd_V)} {i : Nat} {v : sd_V} (h : sd_g ls i = some v) : sd_nth ls i = some (some v) := by
  unfold sd_g at h
  split at h
  next u hu => rw [hu]; cases h; rfl
  next => cases h
theorem sd_nth_mem {α : Type} : ∀ (l : List α) (i : Nat) (a : α), sd_nth l i = some a → a ∈ l
  | [], _, _, h => by cases h
  | b :: t, 0, a, h => by cases h; exact List.mem_cons_self
  | b :: t, i + 1, a, h => List.mem_cons_of_mem _ (sd_nth_mem t i a h)
theorem sd_mem_nth {α : Type} : ∀ (l : List α) (a : α), a ∈ l → ∃ i : Nat, sd_nth l i = some a
  | [], _, h => by cases h
  | b :: t, a, h => by
    rcases List.mem_cons.mp h with h | h
    · exact ⟨0, by rw [h]; rfl⟩
    · obtain ⟨i, hi⟩ := sd_mem_nth t a h
      exact ⟨i + 1, hi⟩
theorem sd_al_mem (ad : sd_A) : ∀ (ls : List (Option sd_V)) (b i : Nat) (v : sd_V), sd_nth ls i = some (some v) → (b + i, sd_rv ad v) ∈ sd_al ad b ls
  | [], _, _, _, h => by cases h
  | none :: t, b, 0, v, h => by cases h
  | some u :: t, b, 0, v, h => by cases h; exact List.mem_cons_self
  | none :: t, b, i + 1, v, h => by
    have := sd_al_mem ad t (b + 1) i v h
    rw [show b + 1 + i = b + (i + 1) by omega] at this
    exact this
  | some u :: t, b, i + 1, v, h => by
    have := sd_al_mem ad t (b + 1) i v h
    rw [show b + 1 + i = b + (i + 1) by omega] at this
    exact List.mem_cons_of_mem _ this
theorem sd_al_inv (ad : sd_A) : ∀ (ls : List (Option sd_V)) (b : Nat) (q : Nat × Value), q ∈ sd_al ad b ls → ∃ (i : Nat) (v : sd_V), q = (b + i, sd_rv ad v) ∧ sd_nth ls i = some (some v)
  | [], _, _, h => by cases h
  | none :: t, b, q, h => by
    obtain ⟨i, v, e, g⟩ := sd_al_inv ad t (b + 1) q h
    exact ⟨i + 1, v, by rw [e, show b + 1 + i = b + (i + 1) by omega], g⟩
  | some u :: t, b, q, h => by
    rcases List.mem_cons.mp h with h | h
    · exact ⟨0, u, h, rfl⟩
    · obtain ⟨i, v, e, g⟩ := sd_al_inv ad t (b + 1) q h
      exact ⟨i + 1, v, by rw [e, show b + 1 + i = b + (i + 1) by omega], g⟩
theorem sd_gl {ad : sd_A} {ls : List (Option sd_V)} {lsA : Array Slot} {n i : Nat} {v : sd_V} (hl : lv_has lsA n (sd_al ad 0 ls)) (hg : sd_g ls i = some v) : lsA[i]? = some (.val (sd_rv ad v)) := by
  have h := hl.2.2 _ (sd_al_mem ad ls 0 i v (sd_g_nth hg))
  simpa using h
def sd_nl (a : Option sd_V) : Option sd_V := match a with
  | some (.inr (.inl _)) => none
  | a => a
def sd_s1 : List (Option sd_V) → Nat → sd_V → List (Option sd_V)
  | [], _, _ => []
  | _ :: t, 0, v => some v :: t
  | a :: t, 1, v => sd_nl a :: sd_s1 t 0 v
  | a :: t, i + 2, v => a :: sd_s1 t (i + 1) v
def sd_s2 : List (Option sd_V) → Nat → sd_V → List (Option sd_V)
  | [], _, _ => []
  | [_], 0, v => [some v]
  | _ :: _ :: t, 0, v => some v :: none :: t
  | a :: t, 1, v => sd_nl a :: sd_s2 t 0 v
  | a :: t, i + 2, v => a :: sd_s2 t (i + 1) v
def sd_lg (v : sd_V) : Prop := ∃ x : Int64, v = .inr (.inl x)
theorem sd_nl_some {a : Option sd_V} {u : sd_V} (h : sd_nl a = some u) : a = some u ∧ ¬ sd_lg u := by
  unfold sd_nl at h
  split at h
  next => cases h
  next a hne => exact ⟨h, fun ⟨x, e⟩ => hne x (by rw [h, e])⟩
theorem sd_s1_nth : ∀ (ls : List (Option sd_V)) (i : Nat) (v : sd_V) (j : Nat) (u : sd_V), sd_nth (sd_s1 ls i v) j = some (some u) → (j = i ∧ u = v) ∨ (j ≠ i ∧ sd_nth ls j = some (some u) ∧ ¬ (j + 1 = i ∧ sd_lg u))
  | [], _, _, _, _, h => by cases h
  | _ :: t, 0, v, 0, u, h => by cases h; exact Or.inl ⟨rfl, rfl⟩
  | _ :: t, 0, v, j + 1, u, h => Or.inr ⟨by omega, h, by omega⟩
  | a :: t, 1, v, 0, u, h => by
    obtain ⟨e, n⟩ := sd_nl_some (Option.some.inj h)
    exact Or.inr ⟨by omega, by show some a = _; rw [e], fun q => n q.2⟩
  | a :: t, 1, v, j + 1, u, h => by
    rcases sd_s1_nth t 0 v j u h with ⟨e1, e2⟩ | ⟨e1, e2, e3⟩
    · exact Or.inl ⟨by omega, e2⟩
    · exact Or.inr ⟨by omega, e2, fun q => by omega⟩
  | a :: t, i + 2, v, 0, u, h => Or.inr ⟨by omega, h, fun q => by omega⟩
  | a :: t, i + 2, v, j + 1, u, h => by
    rcases sd_s1_nth t (i + 1) v j u h with ⟨e1, e2⟩ | ⟨e1, e2, e3⟩
    · exact Or.inl ⟨by omega, e2⟩
    · exact Or.inr ⟨by omega, e2, fun q => e3 ⟨by omega, q.2⟩⟩
theorem sd_s2_nth : ∀ (ls : List (Option sd_V)) (i : Nat) (v : sd_V) (j : Nat) (u : sd_V), sd_nth (sd_s2 ls i v) j = some (some u) → (j = i ∧ u = v) ∨ (j ≠ i ∧ j ≠ i + 1 ∧ sd_nth ls j = some (some u) ∧ ¬ (j + 1 = i ∧ sd_lg u))
  | [], _, _, _, _, h => by cases h
  | [_], 0, v, 0, u, h => by cases h; exact Or.inl ⟨rfl, rfl⟩
  | [_], 0, v, j + 1, u, h => by cases h
  | _ :: _ :: t, 0, v, 0, u, h => by cases h; exact Or.inl ⟨rfl, rfl⟩
  | _ :: _ :: t, 0, v, 1, u, h => by cases h
  | _ :: _ :: t, 0, v, j + 2, u, h => Or.inr ⟨by omega, by omega, h, by omega⟩
  | a :: t, 1, v, 0, u, h => by
    have h : some (sd_nl a) = some (some u) := by
      cases t <;> exact h
    obtain ⟨e, n⟩ := sd_nl_some (Option.some.inj h)
    exact Or.inr ⟨by omega, by omega, by show some a = _; rw [e], fun q => n q.2⟩
  | a :: t, 1, v, j + 1, u, h => by
    have h : sd_nth (sd_s2 t 0 v) j = some (some u) := by
      cases t <;> exact h
    rcases sd_s2_nth t 0 v j u h with ⟨e1, e2⟩ | ⟨e1, e0, e2, e3⟩
    · exact Or.inl ⟨by omega, e2⟩
    · exact Or.inr ⟨by omega, by omega, e2, fun q => by omega⟩
  | a :: t, i + 2, v, 0, u, h => by
    have h : some a = some (some u) := by
      cases t <;> exact h
    exact Or.inr ⟨by omega, by omega, h, fun q => by omega⟩
  | a :: t, i + 2, v, j + 1, u, h => by
    have h : sd_nth (sd_s2 t (i + 1) v) j = some (some u) := by
      cases t <;> exact h
    rcases sd_s2_nth t (i + 1) v j u h with ⟨e1, e2⟩ | ⟨e1, e0, e2, e3⟩
    · exact Or.inl ⟨by omega, e2⟩
    · exact Or.inr ⟨by omega, by omega, e2, fun q => e3 ⟨by omega, q.2⟩⟩
theorem sd_rv_cat {ad : sd_A} {v : sd_V} (h : (sd_rv ad v).category = 2) : sd_lg v := by
  rcases v with x | x | ⟨t, o⟩
  · simp [sd_rv, Value.category] at h
  · exact ⟨x, rfl⟩
  · cases o <;> simp [sd_rv, va_rf, Value.category] at h
theorem sd_lh1 {ad : sd_A} {ls : List (Option sd_V)} {lsA : Array Slot} {n i : Nat} {v : sd_V} (hl : lv_has lsA n ((i, sd_rv ad v) :: (sd_al ad 0 ls).filter (fun q => !(q.1 == i) && !(q.1 + 1 == i && q.2.category == 2)))) : lv_has lsA n (sd_al ad 0 (sd_s1 ls i v)) := by
  refine ⟨hl.1, hl.2.1, fun q hq => hl.2.2 q ?_⟩
  obtain ⟨j, u, rfl, hj⟩ := sd_al_inv ad _ 0 q hq
  rw [Nat.zero_add]
  rcases sd_s1_nth ls i v j u hj with ⟨rfl, rfl⟩ | ⟨h1, h2, h3⟩
  · exact List.mem_cons_self
  · refine List.mem_cons_of_mem _ (List.mem_filter.mpr ⟨?_, ?_⟩)
    · have := sd_al_mem ad ls 0 j u h2
      rwa [Nat.zero_add] at this
    · by_cases hc : (sd_rv ad u).category = 2
      · have : j + 1 ≠ i := fun e => h3 ⟨e, sd_rv_cat hc⟩
        simp [h1, this]
      · simp [h1, hc]
theorem sd_lh2 {ad : sd_A} {ls : List (Option sd_V)} {lsA : Array Slot} {n i : Nat} {v : sd_V} (hl : lv_has lsA n ((i, sd_rv ad v) :: (sd_al ad 0 ls).filter (fun q => !(q.1 == i) && (!(q.1 == i + 1) && !(q.1 + 1 == i && q.2.category == 2))))) : lv_has lsA n (sd_al ad 0 (sd_s2 ls i v)) := by
  refine ⟨hl.1, hl.2.1, fun q hq => hl.2.2 q ?_⟩
  obtain ⟨j, u, rfl, hj⟩ := sd_al_inv ad _ 0 q hq
  rw [Nat.zero_add]
  rcases sd_s2_nth ls i v j u hj with ⟨rfl, rfl⟩ | ⟨h1, h0, h2, h3⟩
  · exact List.mem_cons_self
  · refine List.mem_cons_of_mem _ (List.mem_filter.mpr ⟨?_, ?_⟩)
    · have := sd_al_mem ad ls 0 j u h2
      rwa [Nat.zero_add] at this
    · by_cases hc : (sd_rv ad u).category = 2
      · have : j + 1 ≠ i := fun e => h3 ⟨e, sd_rv_cat hc⟩
        simp [h1, h0, this]
      · simp [h1, h0, hc]
theorem sd_s1_ok {h : sd_H} {ls : List (Option sd_V)} {i : Nat} {v : sd_V} (a : sd_ok h v) (b : ∀ w, some w ∈ ls → sd_ok h w) : ∀ w, some w ∈ sd_s1 ls i v → sd_ok h w := by
  intro w hw
  obtain ⟨j, hj⟩ := sd_mem_nth _ _ hw
  rcases sd_s1_nth ls i v j w hj with ⟨-, rfl⟩ | ⟨-, h2, -⟩
  · exact a
  · exact b w (sd_nth_mem _ _ _ h2)
theorem sd_s2_ok {h : sd_H} {ls : List (Option sd_V)} {i : Nat} {v : sd_V} (a : sd_ok h v) (b : ∀ w, some w ∈ ls → sd_ok h w) : ∀ w, some w ∈ sd_s2 ls i v → sd_ok h w := by
  intro w hw
  obtain ⟨j, hj⟩ := sd_mem_nth _ _ hw
  rcases sd_s2_nth ls i v j w hj with ⟨-, rfl⟩ | ⟨-, -, h2, -⟩
  · exact a
  · exact b w (sd_nth_mem _ _ _ h2)
theorem sd_g_ok {h : sd_H} {ls : List (Option sd_V)} {i : Nat} {v : sd_V} (b : ∀ w, some w ∈ ls → sd_ok h w) (hg : sd_g ls i = some v) : sd_ok h v := b v (sd_nth_mem _ _ _ (sd_g_nth hg))
section SW
variable {l : Launch} {sc : Option (Nat × (Nat → Int32))} {y : Nat} {rm : Bool} {Q : Option sd_V → sd_H → Prop} {pc : Nat} {ls : List (Option sd_V)} {st r : List sd_V} {h : sd_H} {cs ss : Nat}
theorem sw_iconst {n : Int} {v : Int32} (hd : decode (sd_by y) pc = .ok (.iconst n, 1)) (hv : Int32.ofInt n = v) (k : sd_Wq l sc y rm Q (pc + 1) ls (.inl v :: st) h cs ss) : sd_Wq l sc y rm Q pc ls (st) h cs ss := by
  intro p e s m args below meth c R D base ad H locs lsA Z C hb hS hV hl hst hls hok hsc hrt hcs
  exact lv_iconst C.1 C.2.1 hd hv (k p e s m args below meth c R D base ad H locs lsA Z C hb hS hV hl (sd_oc (sd_oi _ _) hst) hls hok hsc hrt hcs)
theorem sw_bipush {n : Int} {v : Int32} (hd : decode (sd_by y) pc = .ok (.bipush n, 2)) (hv : (Int8.ofInt n).toInt32 = v) (k : sd_Wq l sc y rm Q (pc + 2) ls (.inl v :: st) h cs ss) : sd_Wq l sc y rm Q pc ls (st) h cs ss := by
  intro p e s m args below meth c R D base ad H locs lsA Z C hb hS hV hl hst hls hok hsc hrt hcs
  exact lv_bipush C.1 C.2.1 hd hv (k p e s m args below meth c R D base ad H locs lsA Z C hb hS hV hl (sd_oc (sd_oi _ _) hst) hls hok hsc hrt hcs)
theorem sw_sipush {n : Int} {v : Int32} (hd : decode (sd_by y) pc = .ok (.sipush n, 3)) (hv : (Int16.ofInt n).toInt32 = v) (k : sd_Wq l sc y rm Q (pc + 3) ls (.inl v :: st) h cs ss) : sd_Wq l sc y rm Q pc ls (st) h cs ss := by
  intro p e s m args below meth c R D base ad H locs lsA Z C hb hS hV hl hst hls hok hsc hrt hcs
  exact lv_sipush C.1 C.2.1 hd hv (k p e s m args below meth c R D base ad H locs lsA Z C hb hS hV hl (sd_oc (sd_oi _ _) hst) hls hok hsc hrt hcs)
theorem sw_lconst {n : Fin 2} {v : Int64} (hd : decode (sd_by y) pc = .ok (.lconst n, 1)) (hv : Int64.ofNat (n : Nat) = v) (k : sd_Wq l sc y rm Q (pc + 1) ls (.inr (.inl v) :: st) h cs ss) : sd_Wq l sc y rm Q pc ls (st) h cs ss := by
  intro p e s m args below meth c R D base ad H locs lsA Z C hb hS hV hl hst hls hok hsc hrt hcs
  exact lv_lconst C.1 C.2.1 hd hv (k p e s m args below meth c R D base ad H locs lsA Z C hb hS hV hl (sd_oc (sd_olg _ _) hst) hls hok hsc hrt hcs)
theorem sw_ldc {n : Nat} {v : Int32} (hd : decode (sd_by y) pc = .ok (.ldc n, 2)) (hw : Cond.constant (sd_nm y).cls n v ∈ lw_tbl) (k : sd_Wq l sc y rm Q (pc + 2) ls (.inl v :: st) h cs ss) : sd_Wq l sc y rm Q pc ls (st) h cs ss := by
  intro p e s m args below meth c R D base ad H locs lsA Z C hb hS hV hl hst hls hok hsc hrt hcs
  exact lv_ldc C.1 C.2.1 C.2.2.2.1 (C.2.2.2.2.1 _ hw) hd (k p e s m args below meth c R D base ad H locs lsA Z C hb hS hV hl (sd_oc (sd_oi _ _) hst) hls hok hsc hrt hcs)
theorem sw_ldcw {n : Nat} {v : Int32} (hd : decode (sd_by y) pc = .ok (.ldc_w n, 3)) (hw : Cond.constant (sd_nm y).cls n v ∈ lw_tbl) (k : sd_Wq l sc y rm Q (pc + 3) ls (.inl v :: st) h cs ss) : sd_Wq l sc y rm Q pc ls (st) h cs ss := by
  intro p e s m args below meth c R D base ad H locs lsA Z C hb hS hV hl hst hls hok hsc hrt hcs
  exact lv_ldcw C.1 C.2.1 C.2.2.2.1 (C.2.2.2.2.1 _ hw) hd (k p e s m args below meth c R D base ad H locs lsA Z C hb hS hV hl (sd_oc (sd_oi _ _) hst) hls hok hsc hrt hcs)
theorem sw_ldc2 {n : Nat} {v : Int64} (hd : decode (sd_by y) pc = .ok (.ldc2_w n, 3)) (hw : Cond.constantLong (sd_nm y).cls n v ∈ lw_tbl) (k : sd_Wq l sc y rm Q (pc + 3) ls (.inr (.inl v) :: st) h cs ss) : sd_Wq l sc y rm Q pc ls (st) h cs ss := by
  intro p e s m args below meth c R D base ad H locs lsA Z C hb hS hV hl hst hls hok hsc hrt hcs
  exact lv_ldc2 C.1 C.2.1 C.2.2.2.1 (C.2.2.2.2.1 _ hw) hd (k p e s m args below meth c R D base ad H locs lsA Z C hb hS hV hl (sd_oc (sd_olg _ _) hst) hls hok hsc hrt hcs)
theorem sw_null (hd : decode (sd_by y) pc = .ok (.aconst_null, 1)) (k : sd_Wq l sc y rm Q (pc + 1) ls (.inr (.inr (0, none)) :: st) h cs ss) : sd_Wq l sc y rm Q pc ls (st) h cs ss := by
  intro p e s m args below meth c R D base ad H locs lsA Z C hb hS hV hl hst hls hok hsc hrt hcs
  exact lv_null C.1 C.2.1 hd (k p e s m args below meth c R D base ad H locs lsA Z C hb hS hV hl (sd_oc (sd_onl _ _) hst) hls hok hsc hrt hcs)
theorem sw_iload_n {n : Fin 4} {i : Nat} {x : Int32} (hd : decode (sd_by y) pc = .ok (.iload_n n, 1)) (hi : (n : Nat) = i) (hg : sd_g ls i = some (.inl x)) (k : sd_Wq l sc y rm Q (pc + 1) ls (.inl x :: st) h cs ss) : sd_Wq l sc y rm Q pc ls (st) h cs ss := by
  intro p e s m args below meth c R D base ad H locs lsA Z C hb hS hV hl hst hls hok hsc hrt hcs
  exact lv_iload_n C.1 C.2.1 hd hi (sd_gl hl hg) (k p e s m args below meth c R D base ad H locs lsA Z C hb hS hV hl (sd_oc (sd_g_ok hls hg) hst) hls hok hsc hrt hcs)
theorem sw_iload {i : Nat} {x : Int32} (hd : decode (sd_by y) pc = .ok (.iload i, 2)) (hg : sd_g ls i = some (.inl x)) (k : sd_Wq l sc y rm Q (pc + 2) ls (.inl x :: st) h cs ss) : sd_Wq l sc y rm Q pc ls (st) h cs ss := by
  intro p e s m args below meth c R D base ad H locs lsA Z C hb hS hV hl hst hls hok hsc hrt hcs
  exact lv_iload C.1 C.2.1 hd (sd_gl hl hg) (k p e s m args below meth c R D base ad H locs lsA Z C hb hS hV hl (sd_oc (sd_g_ok hls hg) hst) hls hok hsc hrt hcs)
theorem sw_lload_n {n : Fin 4} {i : Nat} {x : Int64} (hd : decode (sd_by y) pc = .ok (.lload_n n, 1)) (hi : (n : Nat) = i) (hg : sd_g ls i = some (.inr (.inl x))) (k : sd_Wq l sc y rm Q (pc + 1) ls (.inr (.inl x) :: st) h cs ss) : sd_Wq l sc y rm Q pc ls (st) h cs ss := by
  intro p e s m args below meth c R D base ad H locs lsA Z C hb hS hV hl hst hls hok hsc hrt hcs
  exact lv_lload_n C.1 C.2.1 hd hi (sd_gl hl hg) (k p e s m args below meth c R D base ad H locs lsA Z C hb hS hV hl (sd_oc (sd_g_ok hls hg) hst) hls hok hsc hrt hcs)
theorem sw_lload {i : Nat} {x : Int64} (hd : decode (sd_by y) pc = .ok (.lload i, 2)) (hg : sd_g ls i = some (.inr (.inl x))) (k : sd_Wq l sc y rm Q (pc + 2) ls (.inr (.inl x) :: st) h cs ss) : sd_Wq l sc y rm Q pc ls (st) h cs ss := by
  intro p e s m args below meth c R D base ad H locs lsA Z C hb hS hV hl hst hls hok hsc hrt hcs
  exact lv_lload C.1 C.2.1 hd (sd_gl hl hg) (k p e s m args below meth c R D base ad H locs lsA Z C hb hS hV hl (sd_oc (sd_g_ok hls hg) hst) hls hok hsc hrt hcs)
theorem sw_aload_n {n : Fin 4} {i : Nat} {q : Nat × Option Nat} (hd : decode (sd_by y) pc = .ok (.aload_n n, 1)) (hi : (n : Nat) = i) (hg : sd_g ls i = some (.inr (.inr q))) (k : sd_Wq l sc y rm Q (pc + 1) ls (.inr (.inr q) :: st) h cs ss) : sd_Wq l sc y rm Q pc ls st h cs ss := by
  intro p e s m args below meth c R D base ad H locs lsA Z C hb hS hV hl hst hls hok hsc hrt hcs
  have w := (k p e s m args below meth c R D base ad H locs lsA Z C hb hS hV hl (sd_oc (sd_g_ok hls hg) hst) hls hok hsc hrt hcs)
  have g := sd_gl hl hg
  obtain ⟨t, _ | o⟩ := q
  · exact lv_aload_nN C.1 C.2.1 hd hi g w
  · exact lv_aload_n C.1 C.2.1 hd hi g w
theorem sw_aload {i : Nat} {q : Nat × Option Nat} (hd : decode (sd_by y) pc = .ok (.aload i, 2)) (hg : sd_g ls i = some (.inr (.inr q))) (k : sd_Wq l sc y rm Q (pc + 2) ls (.inr (.inr q) :: st) h cs ss) : sd_Wq l sc y rm Q pc ls st h cs ss := by
  intro p e s m args below meth c R D base ad H locs lsA Z C hb hS hV hl hst hls hok hsc hrt hcs
  have w := (k p e s m args below meth c R D base ad H locs lsA Z C hb hS hV hl (sd_oc (sd_g_ok hls hg) hst) hls hok hsc hrt hcs)
  have g := sd_gl hl hg
  obtain ⟨t, _ | o⟩ := q
  · exact lv_aloadN C.1 C.2.1 hd g w
  · exact lv_aload C.1 C.2.1 hd g w
theorem sw_istore_n {n : Fin 4} {i : Nat} {x : Int32} (hd : decode (sd_by y) pc = .ok (.istore_n n, 1)) (hi : (n : Nat) = i) (hn : i < sd_ml y) (k : sd_Wq l sc y rm Q (pc + 1) (sd_s1 ls i (.inl x)) r h cs ss) : sd_Wq l sc y rm Q pc ls (.inl x :: r) h cs ss := by
  intro p e s m args below meth c R D base ad H locs lsA Z C hb hS hV hl hst hls hok hsc hrt hcs
  exact lv_istore_n C.1 C.2.1 hd hi hl hn rfl (fun lsA hl => (k p e s m args below meth c R D base ad H locs lsA Z C hb hS hV (sd_lh1 hl) (sd_o1 hst) (sd_s1_ok (sd_o0 hst) hls) hok hsc hrt hcs))
theorem sw_istore {i : Nat} {x : Int32} (hd : decode (sd_by y) pc = .ok (.istore i, 2)) (hn : i < sd_ml y) (k : sd_Wq l sc y rm Q (pc + 2) (sd_s1 ls i (.inl x)) r h cs ss) : sd_Wq l sc y rm Q pc ls (.inl x :: r) h cs ss := by
  intro p e s m args below meth c R D base ad H locs lsA Z C hb hS hV hl hst hls hok hsc hrt hcs
  exact lv_istore C.1 C.2.1 hd hl hn rfl (fun lsA hl => (k p e s m args below meth c R D base ad H locs lsA Z C hb hS hV (sd_lh1 hl) (sd_o1 hst) (sd_s1_ok (sd_o0 hst) hls) hok hsc hrt hcs))
theorem sw_lstore_n {n : Fin 4} {i : Nat} {x : Int64} (hd : decode (sd_by y) pc = .ok (.lstore_n n, 1)) (hi : (n : Nat) = i) (hn : i + 1 < sd_ml y) (k : sd_Wq l sc y rm Q (pc + 1) (sd_s2 ls i (.inr (.inl x))) r h cs ss) : sd_Wq l sc y rm Q pc ls (.inr (.inl x) :: r) h cs ss := by
  intro p e s m args below meth c R D base ad H locs lsA Z C hb hS hV hl hst hls hok hsc hrt hcs
  exact lv_lstore_n C.1 C.2.1 hd hi hl hn rfl (fun lsA hl => (k p e s m args below meth c R D base ad H locs lsA Z C hb hS hV (sd_lh2 hl) (sd_o1 hst) (sd_s2_ok (sd_o0 hst) hls) hok hsc hrt hcs))
theorem sw_lstore {i : Nat} {x : Int64} (hd : decode (sd_by y) pc = .ok (.lstore i, 2)) (hn : i + 1 < sd_ml y) (k : sd_Wq l sc y rm Q (pc + 2) (sd_s2 ls i (.inr (.inl x))) r h cs ss) : sd_Wq l sc y rm Q pc ls (.inr (.inl x) :: r) h cs ss := by
  intro p e s m args below meth c R D base ad H locs lsA Z C hb hS hV hl hst hls hok hsc hrt hcs
  exact lv_lstore C.1 C.2.1 hd hl hn rfl (fun lsA hl => (k p e s m args below meth c R D base ad H locs lsA Z C hb hS hV (sd_lh2 hl) (sd_o1 hst) (sd_s2_ok (sd_o0 hst) hls) hok hsc hrt hcs))
theorem sw_astore_n {n : Fin 4} {i : Nat} {q : Nat × Option Nat} (hd : decode (sd_by y) pc = .ok (.astore_n n, 1)) (hi : (n : Nat) = i) (hn : i < sd_ml y) (k : sd_Wq l sc y rm Q (pc + 1) (sd_s1 ls i (.inr (.inr q))) r h cs ss) : sd_Wq l sc y rm Q pc ls (.inr (.inr q) :: r) h cs ss := by
  intro p e s m args below meth c R D base ad H locs lsA Z C hb hS hV hl hst hls hok hsc hrt hcs
  obtain ⟨t, _ | o⟩ := q
  · exact lv_astore_nN C.1 C.2.1 hd hi hl hn rfl (fun lsA hl => (k p e s m args below meth c R D base ad H locs lsA Z C hb hS hV (sd_lh1 hl) (sd_o1 hst) (sd_s1_ok (sd_o0 hst) hls) hok hsc hrt hcs))
  · exact lv_astore_n C.1 C.2.1 hd hi hl hn rfl (fun lsA hl => (k p e s m args below meth c R D base ad H locs lsA Z C hb hS hV (sd_lh1 hl) (sd_o1 hst) (sd_s1_ok (sd_o0 hst) hls) hok hsc hrt hcs))
theorem sw_astore {i : Nat} {q : Nat × Option Nat} (hd : decode (sd_by y) pc = .ok (.astore i, 2)) (hn : i < sd_ml y) (k : sd_Wq l sc y rm Q (pc + 2) (sd_s1 ls i (.inr (.inr q))) r h cs ss) : sd_Wq l sc y rm Q pc ls (.inr (.inr q) :: r) h cs ss := by
  intro p e s m args below meth c R D base ad H locs lsA Z C hb hS hV hl hst hls hok hsc hrt hcs
  obtain ⟨t, _ | o⟩ := q
  · exact lv_astoreN C.1 C.2.1 hd hl hn rfl (fun lsA hl => (k p e s m args below meth c R D base ad H locs lsA Z C hb hS hV (sd_lh1 hl) (sd_o1 hst) (sd_s1_ok (sd_o0 hst) hls) hok hsc hrt hcs))
  · exact lv_astore C.1 C.2.1 hd hl hn rfl (fun lsA hl => (k p e s m args below meth c R D base ad H locs lsA Z C hb hS hV (sd_lh1 hl) (sd_o1 hst) (sd_s1_ok (sd_o0 hst) hls) hok hsc hrt hcs))
theorem sw_iinc {i : Nat} {n : Int} {x v : Int32} (hd : decode (sd_by y) pc = .ok (.iinc i n, 3)) (hg : sd_g ls i = some (.inl x)) (hv : Int32.ofInt n = v) (hn : i < sd_ml y) (k : sd_Wq l sc y rm Q (pc + 3) (sd_s1 ls i (.inl (x + v))) st h cs ss) : sd_Wq l sc y rm Q pc ls st h cs ss := by
  intro p e s m args below meth c R D base ad H locs lsA Z C hb hS hV hl hst hls hok hsc hrt hcs
  have hm := sd_al_mem ad ls 0 i _ (sd_g_nth hg)
  rw [Nat.zero_add] at hm
  obtain ⟨j, hj⟩ := List.getElem?_of_mem hm
  exact lv_iinc C.1 C.2.1 hd hl hj (by rw [hv]) hn rfl (fun lsA hl => (k p e s m args below meth c R D base ad H locs lsA Z C hb hS hV (sd_lh1 hl) hst (sd_s1_ok (sd_oi _ _) hls) hok hsc hrt hcs))
theorem sw_iadd {x z : Int32} (hd : decode (sd_by y) pc = .ok (.iadd, 1)) (k : sd_Wq l sc y rm Q (pc + 1) ls (.inl (x + z) :: r) h cs ss) : sd_Wq l sc y rm Q pc ls (.inl z :: .inl x :: r) h cs ss := by
  intro p e s m args below meth c R D base ad H locs lsA Z C hb hS hV hl hst hls hok hsc hrt hcs
  exact lv_iadd C.1 C.2.1 hd (k p e s m args below meth c R D base ad H locs lsA Z C hb hS hV hl (sd_oc (sd_oi _ _) (sd_o2 hst)) hls hok hsc hrt hcs)
theorem sw_isub {x z : Int32} (hd : decode (sd_by y) pc = .ok (.isub, 1)) (k : sd_Wq l sc y rm Q (pc + 1) ls (.inl (x - z) :: r) h cs ss) : sd_Wq l sc y rm Q pc ls (.inl z :: .inl x :: r) h cs ss := by
  intro p e s m args below meth c R D base ad H locs lsA Z C hb hS hV hl hst hls hok hsc hrt hcs
  exact lv_isub C.1 C.2.1 hd (k p e s m args below meth c R D base ad H locs lsA Z C hb hS hV hl (sd_oc (sd_oi _ _) (sd_o2 hst)) hls hok hsc hrt hcs)
theorem sw_imul {x z : Int32} (hd : decode (sd_by y) pc = .ok (.imul, 1)) (k : sd_Wq l sc y rm Q (pc + 1) ls (.inl (x * z) :: r) h cs ss) : sd_Wq l sc y rm Q pc ls (.inl z :: .inl x :: r) h cs ss := by
  intro p e s m args below meth c R D base ad H locs lsA Z C hb hS hV hl hst hls hok hsc hrt hcs
  exact lv_imul C.1 C.2.1 hd (k p e s m args below meth c R D base ad H locs lsA Z C hb hS hV hl (sd_oc (sd_oi _ _) (sd_o2 hst)) hls hok hsc hrt hcs)
theorem sw_iand {x z : Int32} (hd : decode (sd_by y) pc = .ok (.iand, 1)) (k : sd_Wq l sc y rm Q (pc + 1) ls (.inl (x &&& z) :: r) h cs ss) : sd_Wq l sc y rm Q pc ls (.inl z :: .inl x :: r) h cs ss := by
  intro p e s m args below meth c R D base ad H locs lsA Z C hb hS hV hl hst hls hok hsc hrt hcs
  exact lv_iand C.1 C.2.1 hd (k p e s m args below meth c R D base ad H locs lsA Z C hb hS hV hl (sd_oc (sd_oi _ _) (sd_o2 hst)) hls hok hsc hrt hcs)
theorem sw_ior {x z : Int32} (hd : decode (sd_by y) pc = .ok (.ior, 1)) (k : sd_Wq l sc y rm Q (pc + 1) ls (.inl (x ||| z) :: r) h cs ss) : sd_Wq l sc y rm Q pc ls (.inl z :: .inl x :: r) h cs ss := by
  intro p e s m args below meth c R D base ad H locs lsA Z C hb hS hV hl hst hls hok hsc hrt hcs
  exact lv_ior C.1 C.2.1 hd (k p e s m args below meth c R D base ad H locs lsA Z C hb hS hV hl (sd_oc (sd_oi _ _) (sd_o2 hst)) hls hok hsc hrt hcs)
theorem sw_ixor {x z : Int32} (hd : decode (sd_by y) pc = .ok (.ixor, 1)) (k : sd_Wq l sc y rm Q (pc + 1) ls (.inl (x ^^^ z) :: r) h cs ss) : sd_Wq l sc y rm Q pc ls (.inl z :: .inl x :: r) h cs ss := by
  intro p e s m args below meth c R D base ad H locs lsA Z C hb hS hV hl hst hls hok hsc hrt hcs
  exact lv_ixor C.1 C.2.1 hd (k p e s m args below meth c R D base ad H locs lsA Z C hb hS hV hl (sd_oc (sd_oi _ _) (sd_o2 hst)) hls hok hsc hrt hcs)
theorem sw_ishl {x z : Int32} (hd : decode (sd_by y) pc = .ok (.ishl, 1)) (k : sd_Wq l sc y rm Q (pc + 1) ls (.inl (x <<< (z &&& 31)) :: r) h cs ss) : sd_Wq l sc y rm Q pc ls (.inl z :: .inl x :: r) h cs ss := by
  intro p e s m args below meth c R D base ad H locs lsA Z C hb hS hV hl hst hls hok hsc hrt hcs
  exact lv_ishl C.1 C.2.1 hd (k p e s m args below meth c R D base ad H locs lsA Z C hb hS hV hl (sd_oc (sd_oi _ _) (sd_o2 hst)) hls hok hsc hrt hcs)
theorem sw_ishr {x z : Int32} (hd : decode (sd_by y) pc = .ok (.ishr, 1)) (k : sd_Wq l sc y rm Q (pc + 1) ls (.inl (x >>> (z &&& 31)) :: r) h cs ss) : sd_Wq l sc y rm Q pc ls (.inl z :: .inl x :: r) h cs ss := by
  intro p e s m args below meth c R D base ad H locs lsA Z C hb hS hV hl hst hls hok hsc hrt hcs
  exact lv_ishr C.1 C.2.1 hd (k p e s m args below meth c R D base ad H locs lsA Z C hb hS hV hl (sd_oc (sd_oi _ _) (sd_o2 hst)) hls hok hsc hrt hcs)
theorem sw_idiv {x z : Int32} (hd : decode (sd_by y) pc = .ok (.idiv, 1)) (hz : ¬ z = 0) (k : sd_Wq l sc y rm Q (pc + 1) ls (.inl (x / z) :: r) h cs ss) : sd_Wq l sc y rm Q pc ls (.inl z :: .inl x :: r) h cs ss := by
  intro p e s m args below meth c R D base ad H locs lsA Z C hb hS hV hl hst hls hok hsc hrt hcs
  exact lv_idiv C.1 C.2.1 hd hz (k p e s m args below meth c R D base ad H locs lsA Z C hb hS hV hl (sd_oc (sd_oi _ _) (sd_o2 hst)) hls hok hsc hrt hcs)
theorem sw_irem {x z : Int32} (hd : decode (sd_by y) pc = .ok (.irem, 1)) (hz : ¬ z = 0) (k : sd_Wq l sc y rm Q (pc + 1) ls (.inl (x - x / z * z) :: r) h cs ss) : sd_Wq l sc y rm Q pc ls (.inl z :: .inl x :: r) h cs ss := by
  intro p e s m args below meth c R D base ad H locs lsA Z C hb hS hV hl hst hls hok hsc hrt hcs
  exact lv_irem C.1 C.2.1 hd hz (k p e s m args below meth c R D base ad H locs lsA Z C hb hS hV hl (sd_oc (sd_oi _ _) (sd_o2 hst)) hls hok hsc hrt hcs)
theorem sw_ineg {x : Int32} (hd : decode (sd_by y) pc = .ok (.ineg, 1)) (k : sd_Wq l sc y rm Q (pc + 1) ls (.inl (-x) :: r) h cs ss) : sd_Wq l sc y rm Q pc ls (.inl x :: r) h cs ss := by
  intro p e s m args below meth c R D base ad H locs lsA Z C hb hS hV hl hst hls hok hsc hrt hcs
  exact lv_ineg C.1 C.2.1 hd (k p e s m args below meth c R D base ad H locs lsA Z C hb hS hV hl (sd_oc (sd_oi _ _) (sd_o1 hst)) hls hok hsc hrt hcs)
theorem sw_ladd {x z : Int64} (hd : decode (sd_by y) pc = .ok (.ladd, 1)) (k : sd_Wq l sc y rm Q (pc + 1) ls (.inr (.inl (x + z)) :: r) h cs ss) : sd_Wq l sc y rm Q pc ls (.inr (.inl z) :: .inr (.inl x) :: r) h cs ss := by
  intro p e s m args below meth c R D base ad H locs lsA Z C hb hS hV hl hst hls hok hsc hrt hcs
  exact lv_ladd C.1 C.2.1 hd (k p e s m args below meth c R D base ad H locs lsA Z C hb hS hV hl (sd_oc (sd_olg _ _) (sd_o2 hst)) hls hok hsc hrt hcs)
theorem sw_lsub {x z : Int64} (hd : decode (sd_by y) pc = .ok (.lsub, 1)) (k : sd_Wq l sc y rm Q (pc + 1) ls (.inr (.inl (x - z)) :: r) h cs ss) : sd_Wq l sc y rm Q pc ls (.inr (.inl z) :: .inr (.inl x) :: r) h cs ss := by
  intro p e s m args below meth c R D base ad H locs lsA Z C hb hS hV hl hst hls hok hsc hrt hcs
  exact lv_lsub C.1 C.2.1 hd (k p e s m args below meth c R D base ad H locs lsA Z C hb hS hV hl (sd_oc (sd_olg _ _) (sd_o2 hst)) hls hok hsc hrt hcs)
theorem sw_lmul {x z : Int64} (hd : decode (sd_by y) pc = .ok (.lmul, 1)) (k : sd_Wq l sc y rm Q (pc + 1) ls (.inr (.inl (x * z)) :: r) h cs ss) : sd_Wq l sc y rm Q pc ls (.inr (.inl z) :: .inr (.inl x) :: r) h cs ss := by
  intro p e s m args below meth c R D base ad H locs lsA Z C hb hS hV hl hst hls hok hsc hrt hcs
  exact lv_lmul C.1 C.2.1 hd (k p e s m args below meth c R D base ad H locs lsA Z C hb hS hV hl (sd_oc (sd_olg _ _) (sd_o2 hst)) hls hok hsc hrt hcs)
theorem sw_land {x z : Int64} (hd : decode (sd_by y) pc = .ok (.land, 1)) (k : sd_Wq l sc y rm Q (pc + 1) ls (.inr (.inl (x &&& z)) :: r) h cs ss) : sd_Wq l sc y rm Q pc ls (.inr (.inl z) :: .inr (.inl x) :: r) h cs ss := by
  intro p e s m args below meth c R D base ad H locs lsA Z C hb hS hV hl hst hls hok hsc hrt hcs
  exact lv_land C.1 C.2.1 hd (k p e s m args below meth c R D base ad H locs lsA Z C hb hS hV hl (sd_oc (sd_olg _ _) (sd_o2 hst)) hls hok hsc hrt hcs)
theorem sw_lor {x z : Int64} (hd : decode (sd_by y) pc = .ok (.lor, 1)) (k : sd_Wq l sc y rm Q (pc + 1) ls (.inr (.inl (x ||| z)) :: r) h cs ss) : sd_Wq l sc y rm Q pc ls (.inr (.inl z) :: .inr (.inl x) :: r) h cs ss := by
  intro p e s m args below meth c R D base ad H locs lsA Z C hb hS hV hl hst hls hok hsc hrt hcs
  exact lv_lor C.1 C.2.1 hd (k p e s m args below meth c R D base ad H locs lsA Z C hb hS hV hl (sd_oc (sd_olg _ _) (sd_o2 hst)) hls hok hsc hrt hcs)
theorem sw_lxor {x z : Int64} (hd : decode (sd_by y) pc = .ok (.lxor, 1)) (k : sd_Wq l sc y rm Q (pc + 1) ls (.inr (.inl (x ^^^ z)) :: r) h cs ss) : sd_Wq l sc y rm Q pc ls (.inr (.inl z) :: .inr (.inl x) :: r) h cs ss := by
  intro p e s m args below meth c R D base ad H locs lsA Z C hb hS hV hl hst hls hok hsc hrt hcs
  exact lv_lxor C.1 C.2.1 hd (k p e s m args below meth c R D base ad H locs lsA Z C hb hS hV hl (sd_oc (sd_olg _ _) (sd_o2 hst)) hls hok hsc hrt hcs)
theorem sw_ldiv {x z : Int64} (hd : decode (sd_by y) pc = .ok (.ldiv, 1)) (hz : ¬ z = 0) (k : sd_Wq l sc y rm Q (pc + 1) ls (.inr (.inl (x / z)) :: r) h cs ss) : sd_Wq l sc y rm Q pc ls (.inr (.inl z) :: .inr (.inl x) :: r) h cs ss := by
  intro p e s m args below meth c R D base ad H locs lsA Z C hb hS hV hl hst hls hok hsc hrt hcs
  exact lv_ldiv C.1 C.2.1 hd hz (k p e s m args below meth c R D base ad H locs lsA Z C hb hS hV hl (sd_oc (sd_olg _ _) (sd_o2 hst)) hls hok hsc hrt hcs)
theorem sw_lrem {x z : Int64} (hd : decode (sd_by y) pc = .ok (.lrem, 1)) (hz : ¬ z = 0) (k : sd_Wq l sc y rm Q (pc + 1) ls (.inr (.inl (x - x / z * z)) :: r) h cs ss) : sd_Wq l sc y rm Q pc ls (.inr (.inl z) :: .inr (.inl x) :: r) h cs ss := by
  intro p e s m args below meth c R D base ad H locs lsA Z C hb hS hV hl hst hls hok hsc hrt hcs
  exact lv_lrem C.1 C.2.1 hd hz (k p e s m args below meth c R D base ad H locs lsA Z C hb hS hV hl (sd_oc (sd_olg _ _) (sd_o2 hst)) hls hok hsc hrt hcs)
theorem sw_lshl {x : Int64} {z : Int32} (hd : decode (sd_by y) pc = .ok (.lshl, 1)) (k : sd_Wq l sc y rm Q (pc + 1) ls (.inr (.inl (x <<< (z.toInt64 &&& 63))) :: r) h cs ss) : sd_Wq l sc y rm Q pc ls (.inl z :: .inr (.inl x) :: r) h cs ss := by
  intro p e s m args below meth c R D base ad H locs lsA Z C hb hS hV hl hst hls hok hsc hrt hcs
  exact lv_lshl C.1 C.2.1 hd rfl (k p e s m args below meth c R D base ad H locs lsA Z C hb hS hV hl (sd_oc (sd_olg _ _) (sd_o2 hst)) hls hok hsc hrt hcs)
theorem sw_lshr {x : Int64} {z : Int32} (hd : decode (sd_by y) pc = .ok (.lshr, 1)) (k : sd_Wq l sc y rm Q (pc + 1) ls (.inr (.inl (x >>> (z.toInt64 &&& 63))) :: r) h cs ss) : sd_Wq l sc y rm Q pc ls (.inl z :: .inr (.inl x) :: r) h cs ss := by
  intro p e s m args below meth c R D base ad H locs lsA Z C hb hS hV hl hst hls hok hsc hrt hcs
  exact lv_lshr C.1 C.2.1 hd rfl (k p e s m args below meth c R D base ad H locs lsA Z C hb hS hV hl (sd_oc (sd_olg _ _) (sd_o2 hst)) hls hok hsc hrt hcs)
theorem sw_lushr {x : Int64} {z : Int32} (hd : decode (sd_by y) pc = .ok (.lushr, 1)) (k : sd_Wq l sc y rm Q (pc + 1) ls (.inr (.inl ((x.toUInt64 >>> (z.toInt64.toUInt64 &&& Int64.toUInt64 63)).toInt64)) :: r) h cs ss) : sd_Wq l sc y rm Q pc ls (.inl z :: .inr (.inl x) :: r) h cs ss := by
  intro p e s m args below meth c R D base ad H locs lsA Z C hb hS hV hl hst hls hok hsc hrt hcs
  exact lv_lushr C.1 C.2.1 hd rfl (k p e s m args below meth c R D base ad H locs lsA Z C hb hS hV hl (sd_oc (sd_olg _ _) (sd_o2 hst)) hls hok hsc hrt hcs)
theorem sw_i2l {x : Int32} (hd : decode (sd_by y) pc = .ok (.i2l, 1)) (k : sd_Wq l sc y rm Q (pc + 1) ls (.inr (.inl x.toInt64) :: r) h cs ss) : sd_Wq l sc y rm Q pc ls (.inl x :: r) h cs ss := by
  intro p e s m args below meth c R D base ad H locs lsA Z C hb hS hV hl hst hls hok hsc hrt hcs
  exact lv_i2l C.1 C.2.1 hd rfl (k p e s m args below meth c R D base ad H locs lsA Z C hb hS hV hl (sd_oc (sd_olg _ _) (sd_o1 hst)) hls hok hsc hrt hcs)
theorem sw_l2i {x : Int64} (hd : decode (sd_by y) pc = .ok (.l2i, 1)) (k : sd_Wq l sc y rm Q (pc + 1) ls (.inl x.toInt32 :: r) h cs ss) : sd_Wq l sc y rm Q pc ls (.inr (.inl x) :: r) h cs ss := by
  intro p e s m args below meth c R D base ad H locs lsA Z C hb hS hV hl hst hls hok hsc hrt hcs
  exact lv_l2i C.1 C.2.1 hd rfl (k p e s m args below meth c R D base ad H locs lsA Z C hb hS hV hl (sd_oc (sd_oi _ _) (sd_o1 hst)) hls hok hsc hrt hcs)
theorem sw_lcmp {x z : Int64} (hd : decode (sd_by y) pc = .ok (.lcmp, 1)) (k : sd_Wq l sc y rm Q (pc + 1) ls (.inl (lg_cmp x z) :: r) h cs ss) : sd_Wq l sc y rm Q pc ls (.inr (.inl z) :: .inr (.inl x) :: r) h cs ss := by
  intro p e s m args below meth c R D base ad H locs lsA Z C hb hS hV hl hst hls hok hsc hrt hcs
  exact W.lcmp C.1 C.2.1 hd (k p e s m args below meth c R D base ad H locs lsA Z C hb hS hV hl (sd_oc (sd_oi _ _) (sd_o2 hst)) hls hok hsc hrt hcs)
theorem sd_cat1 {ad : sd_A} {v : sd_V} (hv : ¬ sd_lg v) : (sd_rv ad v).category = 1 := by
  rcases lv_cat (sd_rv ad v) with q | q
  · exact q
  · exact absurd (sd_rv_cat q) hv
theorem sw_dup {v : sd_V} (hd : decode (sd_by y) pc = .ok (.dup, 1)) (hv : ¬ sd_lg v) (k : sd_Wq l sc y rm Q (pc + 1) ls (v :: v :: r) h cs ss) : sd_Wq l sc y rm Q pc ls (v :: r) h cs ss := by
  intro p e s m args below meth c R D base ad H locs lsA Z C hb hS hV hl hst hls hok hsc hrt hcs
  exact lv_dup C.1 C.2.1 hd (sd_cat1 hv) (k p e s m args below meth c R D base ad H locs lsA Z C hb hS hV hl (sd_oc (sd_o0 hst) hst) hls hok hsc hrt hcs)
theorem sw_pop {v : sd_V} (hd : decode (sd_by y) pc = .ok (.pop, 1)) (hv : ¬ sd_lg v) (k : sd_Wq l sc y rm Q (pc + 1) ls (r) h cs ss) : sd_Wq l sc y rm Q pc ls (v :: r) h cs ss := by
  intro p e s m args below meth c R D base ad H locs lsA Z C hb hS hV hl hst hls hok hsc hrt hcs
  exact lv_pop C.1 C.2.1 hd (sd_cat1 hv) (k p e s m args below meth c R D base ad H locs lsA Z C hb hS hV hl (sd_o1 hst) hls hok hsc hrt hcs)
theorem sw_dup2 {v u : sd_V} (hd : decode (sd_by y) pc = .ok (.dup2, 1)) (hv : ¬ sd_lg v) (hu : ¬ sd_lg u) (k : sd_Wq l sc y rm Q (pc + 1) ls (v :: u :: v :: u :: r) h cs ss) : sd_Wq l sc y rm Q pc ls (v :: u :: r) h cs ss := by
  intro p e s m args below meth c R D base ad H locs lsA Z C hb hS hV hl hst hls hok hsc hrt hcs
  exact lv_dup2_11 C.1 C.2.1 hd (sd_cat1 hv) (sd_cat1 hu) (k p e s m args below meth c R D base ad H locs lsA Z C hb hS hV hl (sd_oc (sd_o0 hst) (sd_oc (sd_o0 (sd_o1 hst)) hst)) hls hok hsc hrt hcs)
theorem sw_if_eq {x : Int32} {off : Int} {tgt : Nat} (hd : decode (sd_by y) pc = .ok (.ifCond .eq off, 3)) (ht : (pc : Int) + off = (tgt : Int)) (kt : x = 0 → sd_Wq l sc y rm Q tgt ls r h cs ss) (kf : ¬ x = 0 → sd_Wq l sc y rm Q (pc + 3) ls r h cs ss) : sd_Wq l sc y rm Q pc ls (.inl x :: r) h cs ss := by
  intro p e s m args below meth c R D base ad H locs lsA Z C hb hS hV hl hst hls hok hsc hrt hcs
  exact lv_if_eq C.1 C.2.1 hd ht (fun q => kt q p e s m args below meth c R D base ad H locs lsA Z C hb hS hV hl (sd_o1 hst) hls hok hsc hrt hcs) (fun q => kf q p e s m args below meth c R D base ad H locs lsA Z C hb hS hV hl (sd_o1 hst) hls hok hsc hrt hcs)
theorem sw_icmp_eq {x z : Int32} {off : Int} {tgt : Nat} (hd : decode (sd_by y) pc = .ok (.if_icmp .eq off, 3)) (ht : (pc : Int) + off = (tgt : Int)) (kt : x = z → sd_Wq l sc y rm Q tgt ls r h cs ss) (kf : ¬ x = z → sd_Wq l sc y rm Q (pc + 3) ls r h cs ss) : sd_Wq l sc y rm Q pc ls (.inl z :: .inl x :: r) h cs ss := by
  intro p e s m args below meth c R D base ad H locs lsA Z C hb hS hV hl hst hls hok hsc hrt hcs
  exact lv_icmp_eq C.1 C.2.1 hd ht (fun q => kt q p e s m args below meth c R D base ad H locs lsA Z C hb hS hV hl (sd_o2 hst) hls hok hsc hrt hcs) (fun q => kf q p e s m args below meth c R D base ad H locs lsA Z C hb hS hV hl (sd_o2 hst) hls hok hsc hrt hcs)
theorem sw_if_ne {x : Int32} {off : Int} {tgt : Nat} (hd : decode (sd_by y) pc = .ok (.ifCond .ne off, 3)) (ht : (pc : Int) + off = (tgt : Int)) (kt : ¬ x = 0 → sd_Wq l sc y rm Q tgt ls r h cs ss) (kf : x = 0 → sd_Wq l sc y rm Q (pc + 3) ls r h cs ss) : sd_Wq l sc y rm Q pc ls (.inl x :: r) h cs ss := by
  intro p e s m args below meth c R D base ad H locs lsA Z C hb hS hV hl hst hls hok hsc hrt hcs
  exact lv_if_ne C.1 C.2.1 hd ht (fun q => kt q p e s m args below meth c R D base ad H locs lsA Z C hb hS hV hl (sd_o1 hst) hls hok hsc hrt hcs) (fun q => kf q p e s m args below meth c R D base ad H locs lsA Z C hb hS hV hl (sd_o1 hst) hls hok hsc hrt hcs)
theorem sw_icmp_ne {x z : Int32} {off : Int} {tgt : Nat} (hd : decode (sd_by y) pc = .ok (.if_icmp .ne off, 3)) (ht : (pc : Int) + off = (tgt : Int)) (kt : ¬ x = z → sd_Wq l sc y rm Q tgt ls r h cs ss) (kf : x = z → sd_Wq l sc y rm Q (pc + 3) ls r h cs ss) : sd_Wq l sc y rm Q pc ls (.inl z :: .inl x :: r) h cs ss := by
  intro p e s m args below meth c R D base ad H locs lsA Z C hb hS hV hl hst hls hok hsc hrt hcs
  exact lv_icmp_ne C.1 C.2.1 hd ht (fun q => kt q p e s m args below meth c R D base ad H locs lsA Z C hb hS hV hl (sd_o2 hst) hls hok hsc hrt hcs) (fun q => kf q p e s m args below meth c R D base ad H locs lsA Z C hb hS hV hl (sd_o2 hst) hls hok hsc hrt hcs)
theorem sw_if_lt {x : Int32} {off : Int} {tgt : Nat} (hd : decode (sd_by y) pc = .ok (.ifCond .lt off, 3)) (ht : (pc : Int) + off = (tgt : Int)) (kt : x < 0 → sd_Wq l sc y rm Q tgt ls r h cs ss) (kf : ¬ x < 0 → sd_Wq l sc y rm Q (pc + 3) ls r h cs ss) : sd_Wq l sc y rm Q pc ls (.inl x :: r) h cs ss := by
  intro p e s m args below meth c R D base ad H locs lsA Z C hb hS hV hl hst hls hok hsc hrt hcs
  exact lv_if_lt C.1 C.2.1 hd ht (fun q => kt q p e s m args below meth c R D base ad H locs lsA Z C hb hS hV hl (sd_o1 hst) hls hok hsc hrt hcs) (fun q => kf q p e s m args below meth c R D base ad H locs lsA Z C hb hS hV hl (sd_o1 hst) hls hok hsc hrt hcs)
theorem sw_icmp_lt {x z : Int32} {off : Int} {tgt : Nat} (hd : decode (sd_by y) pc = .ok (.if_icmp .lt off, 3)) (ht : (pc : Int) + off = (tgt : Int)) (kt : x < z → sd_Wq l sc y rm Q tgt ls r h cs ss) (kf : ¬ x < z → sd_Wq l sc y rm Q (pc + 3) ls r h cs ss) : sd_Wq l sc y rm Q pc ls (.inl z :: .inl x :: r) h cs ss := by
  intro p e s m args below meth c R D base ad H locs lsA Z C hb hS hV hl hst hls hok hsc hrt hcs
  exact lv_icmp_lt C.1 C.2.1 hd ht (fun q => kt q p e s m args below meth c R D base ad H locs lsA Z C hb hS hV hl (sd_o2 hst) hls hok hsc hrt hcs) (fun q => kf q p e s m args below meth c R D base ad H locs lsA Z C hb hS hV hl (sd_o2 hst) hls hok hsc hrt hcs)
theorem sw_if_ge {x : Int32} {off : Int} {tgt : Nat} (hd : decode (sd_by y) pc = .ok (.ifCond .ge off, 3)) (ht : (pc : Int) + off = (tgt : Int)) (kt : 0 ≤ x → sd_Wq l sc y rm Q tgt ls r h cs ss) (kf : ¬ 0 ≤ x → sd_Wq l sc y rm Q (pc + 3) ls r h cs ss) : sd_Wq l sc y rm Q pc ls (.inl x :: r) h cs ss := by
  intro p e s m args below meth c R D base ad H locs lsA Z C hb hS hV hl hst hls hok hsc hrt hcs
  exact lv_if_ge C.1 C.2.1 hd ht (fun q => kt q p e s m args below meth c R D base ad H locs lsA Z C hb hS hV hl (sd_o1 hst) hls hok hsc hrt hcs) (fun q => kf q p e s m args below meth c R D base ad H locs lsA Z C hb hS hV hl (sd_o1 hst) hls hok hsc hrt hcs)
theorem sw_icmp_ge {x z : Int32} {off : Int} {tgt : Nat} (hd : decode (sd_by y) pc = .ok (.if_icmp .ge off, 3)) (ht : (pc : Int) + off = (tgt : Int)) (kt : z ≤ x → sd_Wq l sc y rm Q tgt ls r h cs ss) (kf : ¬ z ≤ x → sd_Wq l sc y rm Q (pc + 3) ls r h cs ss) : sd_Wq l sc y rm Q pc ls (.inl z :: .inl x :: r) h cs ss := by
  intro p e s m args below meth c R D base ad H locs lsA Z C hb hS hV hl hst hls hok hsc hrt hcs
  exact lv_icmp_ge C.1 C.2.1 hd ht (fun q => kt q p e s m args below meth c R D base ad H locs lsA Z C hb hS hV hl (sd_o2 hst) hls hok hsc hrt hcs) (fun q => kf q p e s m args below meth c R D base ad H locs lsA Z C hb hS hV hl (sd_o2 hst) hls hok hsc hrt hcs)
theorem sw_if_gt {x : Int32} {off : Int} {tgt : Nat} (hd : decode (sd_by y) pc = .ok (.ifCond .gt off, 3)) (ht : (pc : Int) + off = (tgt : Int)) (kt : 0 < x → sd_Wq l sc y rm Q tgt ls r h cs ss) (kf : ¬ 0 < x → sd_Wq l sc y rm Q (pc + 3) ls r h cs ss) : sd_Wq l sc y rm Q pc ls (.inl x :: r) h cs ss := by
  intro p e s m args below meth c R D base ad H locs lsA Z C hb hS hV hl hst hls hok hsc hrt hcs
  exact lv_if_gt C.1 C.2.1 hd ht (fun q => kt q p e s m args below meth c R D base ad H locs lsA Z C hb hS hV hl (sd_o1 hst) hls hok hsc hrt hcs) (fun q => kf q p e s m args below meth c R D base ad H locs lsA Z C hb hS hV hl (sd_o1 hst) hls hok hsc hrt hcs)
theorem sw_icmp_gt {x z : Int32} {off : Int} {tgt : Nat} (hd : decode (sd_by y) pc = .ok (.if_icmp .gt off, 3)) (ht : (pc : Int) + off = (tgt : Int)) (kt : z < x → sd_Wq l sc y rm Q tgt ls r h cs ss) (kf : ¬ z < x → sd_Wq l sc y rm Q (pc + 3) ls r h cs ss) : sd_Wq l sc y rm Q pc ls (.inl z :: .inl x :: r) h cs ss := by
  intro p e s m args below meth c R D base ad H locs lsA Z C hb hS hV hl hst hls hok hsc hrt hcs
  exact lv_icmp_gt C.1 C.2.1 hd ht (fun q => kt q p e s m args below meth c R D base ad H locs lsA Z C hb hS hV hl (sd_o2 hst) hls hok hsc hrt hcs) (fun q => kf q p e s m args below meth c R D base ad H locs lsA Z C hb hS hV hl (sd_o2 hst) hls hok hsc hrt hcs)
theorem sw_if_le {x : Int32} {off : Int} {tgt : Nat} (hd : decode (sd_by y) pc = .ok (.ifCond .le off, 3)) (ht : (pc : Int) + off = (tgt : Int)) (kt : x ≤ 0 → sd_Wq l sc y rm Q tgt ls r h cs ss) (kf : ¬ x ≤ 0 → sd_Wq l sc y rm Q (pc + 3) ls r h cs ss) : sd_Wq l sc y rm Q pc ls (.inl x :: r) h cs ss := by
  intro p e s m args below meth c R D base ad H locs lsA Z C hb hS hV hl hst hls hok hsc hrt hcs
  exact lv_if_le C.1 C.2.1 hd ht (fun q => kt q p e s m args below meth c R D base ad H locs lsA Z C hb hS hV hl (sd_o1 hst) hls hok hsc hrt hcs) (fun q => kf q p e s m args below meth c R D base ad H locs lsA Z C hb hS hV hl (sd_o1 hst) hls hok hsc hrt hcs)
theorem sw_icmp_le {x z : Int32} {off : Int} {tgt : Nat} (hd : decode (sd_by y) pc = .ok (.if_icmp .le off, 3)) (ht : (pc : Int) + off = (tgt : Int)) (kt : x ≤ z → sd_Wq l sc y rm Q tgt ls r h cs ss) (kf : ¬ x ≤ z → sd_Wq l sc y rm Q (pc + 3) ls r h cs ss) : sd_Wq l sc y rm Q pc ls (.inl z :: .inl x :: r) h cs ss := by
  intro p e s m args below meth c R D base ad H locs lsA Z C hb hS hV hl hst hls hok hsc hrt hcs
  exact lv_icmp_le C.1 C.2.1 hd ht (fun q => kt q p e s m args below meth c R D base ad H locs lsA Z C hb hS hV hl (sd_o2 hst) hls hok hsc hrt hcs) (fun q => kf q p e s m args below meth c R D base ad H locs lsA Z C hb hS hV hl (sd_o2 hst) hls hok hsc hrt hcs)
theorem sw_goto {off : Int} {tgt : Nat} (hd : decode (sd_by y) pc = .ok (.goto off, 3)) (ht : (pc : Int) + off = (tgt : Int)) (k : sd_Wq l sc y rm Q tgt ls st h cs ss) : sd_Wq l sc y rm Q pc ls st h cs ss := by
  intro p e s m args below meth c R D base ad H locs lsA Z C hb hS hV hl hst hls hok hsc hrt hcs
  exact lv_goto C.1 C.2.1 hd ht (k p e s m args below meth c R D base ad H locs lsA Z C hb hS hV hl hst hls hok hsc hrt hcs)
theorem sw_ifnull {q : Nat × Option Nat} {off : Int} {tgt : Nat} (hd : decode (sd_by y) pc = .ok (.ifnull off, 3)) (ht : (pc : Int) + off = (tgt : Int)) (kt : q.2 = none → sd_Wq l sc y rm Q tgt ls r h cs ss) (kf : ∀ n, q.2 = some n → sd_Wq l sc y rm Q (pc + 3) ls r h cs ss) : sd_Wq l sc y rm Q pc ls (.inr (.inr q) :: r) h cs ss := by
  intro p e s m args below meth c R D base ad H locs lsA Z C hb hS hV hl hst hls hok hsc hrt hcs
  obtain ⟨t, _ | o⟩ := q
  · exact lv_ifnullN C.1 C.2.1 hd ht (kt rfl p e s m args below meth c R D base ad H locs lsA Z C hb hS hV hl (sd_o1 hst) hls hok hsc hrt hcs)
  · exact lv_ifnull C.1 C.2.1 hd (kf o rfl p e s m args below meth c R D base ad H locs lsA Z C hb hS hV hl (sd_o1 hst) hls hok hsc hrt hcs)
theorem sw_ifnonnull {q : Nat × Option Nat} {off : Int} {tgt : Nat} (hd : decode (sd_by y) pc = .ok (.ifnonnull off, 3)) (ht : (pc : Int) + off = (tgt : Int)) (kt : ∀ n, q.2 = some n → sd_Wq l sc y rm Q tgt ls r h cs ss) (kf : q.2 = none → sd_Wq l sc y rm Q (pc + 3) ls r h cs ss) : sd_Wq l sc y rm Q pc ls (.inr (.inr q) :: r) h cs ss := by
  intro p e s m args below meth c R D base ad H locs lsA Z C hb hS hV hl hst hls hok hsc hrt hcs
  obtain ⟨t, _ | o⟩ := q
  · exact lv_ifnonnullN C.1 C.2.1 hd (kf rfl p e s m args below meth c R D base ad H locs lsA Z C hb hS hV hl (sd_o1 hst) hls hok hsc hrt hcs)
  · exact lv_ifnonnull C.1 C.2.1 hd ht (kt o rfl p e s m args below meth c R D base ad H locs lsA Z C hb hS hV hl (sd_o1 hst) hls hok hsc hrt hcs)
end SW
