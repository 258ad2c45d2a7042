/-! the weakest condition of a stretch of bytecode, computed; and that it is enough -/
def sd_pop : Nat → List sd_V → List sd_V → Option (List sd_V × List sd_V)
  | 0, st, acc => some (acc, st)
  | n + 1, v :: t, acc => sd_pop n t (v :: acc)
  | _ + 1, [], _ => none
theorem sd_pop_eq : ∀ (n : Nat) (st acc as r : List sd_V), sd_pop n st acc = some (as, r) → ∃ a' : List sd_V, as = a' ++ acc ∧ st = a'.reverse ++ r ∧ a'.length = n
  | 0, st, acc, as, r, h => by cases h; exact ⟨[], rfl, rfl, rfl⟩
  | n + 1, [], acc, as, r, h => by cases h
  | n + 1, v :: t, acc, as, r, h => by
    obtain ⟨a', e1, e2, e3⟩ := sd_pop_eq n t (v :: acc) as r h
    exact ⟨a' ++ [v], by rw [e1]; simp, by rw [e2]; simp, by simp [e3]⟩
theorem sd_E_mono {l : Launch} {y : Nat} {as : List sd_V} {h : sd_H} {Q Q' : Option sd_V → sd_H → Prop} (hE : sd_E l y as h Q) (hQ : ∀ v h', Q v h' → Q' v h') : sd_E l y as h Q' := by
  intro hoka D base ad p e ha hc hk s m args below hf happ hP hK
  obtain ⟨n, o, q1, q2, q3, ⟨r, h', ad', w1, w2, w3⟩, q5⟩ := hE hoka D base ad p e ha hc hk s m args below hf happ hP hK
  exact ⟨n, o, q1, q2, q3, ⟨r, h', ad', w1, hQ r h' w2, w3⟩, q5⟩
abbrev sd_Rc : Type := Nat → List (Option sd_V) → List sd_V → sd_H → Nat → Nat → Prop
/-- the reference in a field: set once for all, where the mode says so -/
def sd_ro (rm : Bool) (h : sd_H) (T k i own : Nat) : Option Nat := cond rm (match own with
  | 1 => some k
  | 2 => some 0
  | _ => h.2.2.1 T k i) (h.2.2.1 T k i)
def sd_X1 (rec : sd_Rc) (nx : Nat) (ls : List (Option sd_V)) (r : List sd_V) (h : sd_H) (cs ss : Nat) (l : Launch) (rm : Bool) (y a1 : Nat) (as : List sd_V) (ts : List Nat) : Prop := match ts with
  | [mc, ms] => cond (Nat.beq mc 0 && Nat.beq ms 0)
      (cond rm (sd_E1 l a1 as h (fun v h' => rec nx ls (v.toList ++ r) h' cs ss)) (sd_E l a1 as h (fun v h' => rec nx ls (v.toList ++ r) h' cs ss)))
      ((cs + mc ≤ sd_mc y ∧ ss + ms ≤ sd_mz y) ∧ cond rm (sd_E1 l a1 as h (fun v h' => rec nx ls (v.toList ++ r) h' (cs + mc) (ss + ms))) (sd_E l a1 as h (fun v h' => rec nx ls (v.toList ++ r) h' (cs + mc) (ss + ms))))
  | _ => False
def sd_X (l : Launch) (sc : Option (Nat × (Nat → Int32))) (y : Nat) (rm : Bool) (Q : Option sd_V → sd_H → Prop) (rec : sd_Rc) (q : sd_I) (ls : List (Option sd_V)) (st : List sd_V) (h : sd_H) (cs ss : Nat) : Prop := match q with
  | (_, i, nx, a1, a2, a3, a4, _, c, d, ts) => match i with
    | .iconst _ => rec nx ls (.inl c :: st) h cs ss
    | .bipush _ => rec nx ls (.inl c :: st) h cs ss
    | .sipush _ => rec nx ls (.inl c :: st) h cs ss
    | .ldc _ => rec nx ls (.inl c :: st) h cs ss
    | .ldc_w _ => rec nx ls (.inl c :: st) h cs ss
    | .lconst _ => rec nx ls (.inr (.inl d) :: st) h cs ss
    | .ldc2_w _ => rec nx ls (.inr (.inl d) :: st) h cs ss
    | .aconst_null => rec nx ls (.inr (.inr (0, none)) :: st) h cs ss
    | .iload_n _ => match sd_g ls a1 with | some (.inl x) => rec nx ls (.inl x :: st) h cs ss | _ => False
    | .iload _ => match sd_g ls a1 with | some (.inl x) => rec nx ls (.inl x :: st) h cs ss | _ => False
    | .lload_n _ => match sd_g ls a1 with | some (.inr (.inl x)) => rec nx ls (.inr (.inl x) :: st) h cs ss | _ => False
    | .lload _ => match sd_g ls a1 with | some (.inr (.inl x)) => rec nx ls (.inr (.inl x) :: st) h cs ss | _ => False
    | .aload_n _ => match sd_g ls a1 with | some (.inr (.inr x)) => rec nx ls (.inr (.inr x) :: st) h cs ss | _ => False
    | .aload _ => match sd_g ls a1 with | some (.inr (.inr x)) => rec nx ls (.inr (.inr x) :: st) h cs ss | _ => False
    | .istore_n _ => match st with | .inl x :: r => rec nx (sd_s1 ls a1 (.inl x)) r h cs ss | _ => False
    | .istore _ => match st with | .inl x :: r => rec nx (sd_s1 ls a1 (.inl x)) r h cs ss | _ => False
    | .lstore_n _ => match st with | .inr (.inl x) :: r => rec nx (sd_s2 ls a1 (.inr (.inl x))) r h cs ss | _ => False
    | .lstore _ => match st with | .inr (.inl x) :: r => rec nx (sd_s2 ls a1 (.inr (.inl x))) r h cs ss | _ => False
    | .astore_n _ => match st with | .inr (.inr x) :: r => rec nx (sd_s1 ls a1 (.inr (.inr x))) r h cs ss | _ => False
    | .astore _ => match st with | .inr (.inr x) :: r => rec nx (sd_s1 ls a1 (.inr (.inr x))) r h cs ss | _ => False
    | .iinc _ _ => match sd_g ls a1 with | some (.inl x) => rec nx (sd_s1 ls a1 (.inl (x + c))) st h cs ss | _ => False
    | .iadd => match st with | .inl z :: .inl x :: r => rec nx ls (.inl (x + z) :: r) h cs ss | _ => False
    | .isub => match st with | .inl z :: .inl x :: r => rec nx ls (.inl (x - z) :: r) h cs ss | _ => False
    | .imul => match st with | .inl z :: .inl x :: r => rec nx ls (.inl (x * z) :: r) h cs ss | _ => False
    | .iand => match st with | .inl z :: .inl x :: r => rec nx ls (.inl (x &&& z) :: r) h cs ss | _ => False
    | .ior => match st with | .inl z :: .inl x :: r => rec nx ls (.inl (x ||| z) :: r) h cs ss | _ => False
    | .ixor => match st with | .inl z :: .inl x :: r => rec nx ls (.inl (x ^^^ z) :: r) h cs ss | _ => False
    | .ishl => match st with | .inl z :: .inl x :: r => rec nx ls (.inl (x <<< (z &&& 31)) :: r) h cs ss | _ => False
    | .ishr => match st with | .inl z :: .inl x :: r => rec nx ls (.inl (x >>> (z &&& 31)) :: r) h cs ss | _ => False
    | .idiv => match st with | .inl z :: .inl x :: r => (¬ z = 0) ∧ rec nx ls (.inl (x / z) :: r) h cs ss | _ => False
    | .irem => match st with | .inl z :: .inl x :: r => (¬ z = 0) ∧ rec nx ls (.inl (x - x / z * z) :: r) h cs ss | _ => False
    | .ineg => match st with | .inl x :: r => rec nx ls (.inl (-x) :: r) h cs ss | _ => False
    | .ladd => match st with | .inr (.inl z) :: .inr (.inl x) :: r => rec nx ls (.inr (.inl (x + z)) :: r) h cs ss | _ => False
    | .lsub => match st with | .inr (.inl z) :: .inr (.inl x) :: r => rec nx ls (.inr (.inl (x - z)) :: r) h cs ss | _ => False
    | .lmul => match st with | .inr (.inl z) :: .inr (.inl x) :: r => rec nx ls (.inr (.inl (x * z)) :: r) h cs ss | _ => False
    | .land => match st with | .inr (.inl z) :: .inr (.inl x) :: r => rec nx ls (.inr (.inl (x &&& z)) :: r) h cs ss | _ => False
    | .lor => match st with | .inr (.inl z) :: .inr (.inl x) :: r => rec nx ls (.inr (.inl (x ||| z)) :: r) h cs ss | _ => False
    | .lxor => match st with | .inr (.inl z) :: .inr (.inl x) :: r => rec nx ls (.inr (.inl (x ^^^ z)) :: r) h cs ss | _ => False
    | .ldiv => match st with | .inr (.inl z) :: .inr (.inl x) :: r => (¬ z = 0) ∧ rec nx ls (.inr (.inl (x / z)) :: r) h cs ss | _ => False
    | .lrem => match st with | .inr (.inl z) :: .inr (.inl x) :: r => (¬ z = 0) ∧ rec nx ls (.inr (.inl (x - x / z * z)) :: r) h cs ss | _ => False
    | .lshl => match st with | .inl z :: .inr (.inl x) :: r => rec nx ls (.inr (.inl (x <<< (z.toInt64 &&& 63))) :: r) h cs ss | _ => False
    | .lshr => match st with | .inl z :: .inr (.inl x) :: r => rec nx ls (.inr (.inl (x >>> (z.toInt64 &&& 63))) :: r) h cs ss | _ => False
    | .lushr => match st with | .inl z :: .inr (.inl x) :: r => rec nx ls (.inr (.inl ((x.toUInt64 >>> (z.toInt64.toUInt64 &&& Int64.toUInt64 63)).toInt64)) :: r) h cs ss | _ => False
    | .i2l => match st with | .inl x :: r => rec nx ls (.inr (.inl x.toInt64) :: r) h cs ss | _ => False
    | .l2i => match st with | .inr (.inl x) :: r => rec nx ls (.inl x.toInt32 :: r) h cs ss | _ => False
    | .lcmp => match st with | .inr (.inl z) :: .inr (.inl x) :: r => rec nx ls (.inl (lg_cmp x z) :: r) h cs ss | _ => False
    | .dup => match st with | .inl x :: r => rec nx ls (.inl x :: .inl x :: r) h cs ss | .inr (.inr x) :: r => rec nx ls (.inr (.inr x) :: .inr (.inr x) :: r) h cs ss | _ => False
    | .pop => match st with | .inl _ :: r => rec nx ls r h cs ss | .inr (.inr _) :: r => rec nx ls r h cs ss | _ => False
    | .dup2 => match st with | .inl x :: .inr (.inr z) :: r => rec nx ls (.inl x :: .inr (.inr z) :: .inl x :: .inr (.inr z) :: r) h cs ss | _ => False
    | .ifCond .eq _ => match st with | .inl x :: r => (x = 0 → rec a1 ls r h cs ss) ∧ (¬ x = 0 → rec nx ls r h cs ss) | _ => False
    | .ifCond .ne _ => match st with | .inl x :: r => (¬ x = 0 → rec a1 ls r h cs ss) ∧ (x = 0 → rec nx ls r h cs ss) | _ => False
    | .ifCond .lt _ => match st with | .inl x :: r => (x < 0 → rec a1 ls r h cs ss) ∧ (¬ x < 0 → rec nx ls r h cs ss) | _ => False
    | .ifCond .ge _ => match st with | .inl x :: r => (0 ≤ x → rec a1 ls r h cs ss) ∧ (¬ 0 ≤ x → rec nx ls r h cs ss) | _ => False
    | .ifCond .gt _ => match st with | .inl x :: r => (0 < x → rec a1 ls r h cs ss) ∧ (¬ 0 < x → rec nx ls r h cs ss) | _ => False
    | .ifCond .le _ => match st with | .inl x :: r => (x ≤ 0 → rec a1 ls r h cs ss) ∧ (¬ x ≤ 0 → rec nx ls r h cs ss) | _ => False
    | .if_icmp .eq _ => match st with | .inl z :: .inl x :: r => (x = z → rec a1 ls r h cs ss) ∧ (¬ x = z → rec nx ls r h cs ss) | _ => False
    | .if_icmp .ne _ => match st with | .inl z :: .inl x :: r => (¬ x = z → rec a1 ls r h cs ss) ∧ (x = z → rec nx ls r h cs ss) | _ => False
    | .if_icmp .lt _ => match st with | .inl z :: .inl x :: r => (x < z → rec a1 ls r h cs ss) ∧ (¬ x < z → rec nx ls r h cs ss) | _ => False
    | .if_icmp .ge _ => match st with | .inl z :: .inl x :: r => (z ≤ x → rec a1 ls r h cs ss) ∧ (¬ z ≤ x → rec nx ls r h cs ss) | _ => False
    | .if_icmp .gt _ => match st with | .inl z :: .inl x :: r => (z < x → rec a1 ls r h cs ss) ∧ (¬ z < x → rec nx ls r h cs ss) | _ => False
    | .if_icmp .le _ => match st with | .inl z :: .inl x :: r => (x ≤ z → rec a1 ls r h cs ss) ∧ (¬ x ≤ z → rec nx ls r h cs ss) | _ => False
    | .goto _ => rec a1 ls st h cs ss
    | .ifnull _ => match st with | .inr (.inr x) :: r => (x.2 = none → rec a1 ls r h cs ss) ∧ (∀ n, x.2 = some n → rec nx ls r h cs ss) | _ => False
    | .ifnonnull _ => match st with | .inr (.inr x) :: r => (∀ n, x.2 = some n → rec a1 ls r h cs ss) ∧ (x.2 = none → rec nx ls r h cs ss) | _ => False
    | .tableswitch _ _ _ _ => match st with | .inl x :: r => sd_sw (fun t => rec t ls r h cs ss) x a1 c ts | _ => False
    | .getfield _ => match st with
      | .inr (.inr (t, some k)) :: r => cond (Nat.beq t a1) (match a3 with
        | 0 => rec nx ls (.inl (h.1 a1 k a2) :: r) h cs ss
        | 1 => rec nx ls (.inr (.inl (h.2.1 a1 k a2)) :: r) h cs ss
        | 2 => rec nx ls (.inl (h.1 a1 k a2) :: r) h cs ss
        | u + 3 => rec nx ls (.inr (.inr (u, sd_ro rm h a1 k a2 a4)) :: r) h cs ss) False
      | _ => False
    | .putfield _ => match st with
      | .inl x :: .inr (.inr (t, some k)) :: r => cond (Nat.beq t a1) (match a3 with
        | 0 => rec nx ls r (sd_pi h a1 k a2 x) cs ss
        | 2 => (x = 0 ∨ x = 1) ∧ rec nx ls r (sd_pi h a1 k a2 x) cs ss
        | _ => False) False
      | .inr (.inl x) :: .inr (.inr (t, some k)) :: r => cond (Nat.beq t a1 && Nat.beq a3 1) (rec nx ls r (sd_pl h a1 k a2 x) cs ss) False
      | .inr (.inr x) :: .inr (.inr (t, some k)) :: r => cond (Nat.beq t a1 && !rm && Nat.beq a3 (x.1 + 3) && Nat.blt x.1 sd_nT) (rec nx ls r (sd_pr h a1 k a2 x.2) cs ss) False
      | _ => False
    | .iaload => match st with
      | .inl j :: .inr (.inr (t, some k)) :: r => cond (Nat.beq t sd_nT) (match sc with
        | some (L, xs) => k = 0 ∧ ∃ n : Nat, (n < L ∧ L < 2147483648 ∧ j = nI n) ∧ rec nx ls (.inl (xs n) :: r) h cs ss
        | none => False)
        (cond (Nat.ble 8 t && Nat.blt t sd_nT && Nat.beq (sd_fc t 0) 0) (∃ n : Nat, (n < sd_tn t ∧ j = nI n) ∧ rec nx ls (.inl (h.1 t k n) :: r) h cs ss) False)
      | _ => False
    | .laload => match st with
      | .inl j :: .inr (.inr (t, some k)) :: r => cond (Nat.ble 8 t && Nat.blt t sd_nT && Nat.beq (sd_fc t 0) 1) (∃ n : Nat, (n < sd_tn t ∧ j = nI n) ∧ rec nx ls (.inr (.inl (h.2.1 t k n)) :: r) h cs ss) False
      | _ => False
    | .baload => match st with
      | .inl j :: .inr (.inr (t, some k)) :: r => cond (Nat.ble 8 t && Nat.blt t sd_nT && Nat.beq (sd_fc t 0) 2) (∃ n : Nat, (n < sd_tn t ∧ j = nI n) ∧ rec nx ls (.inl (h.1 t k n) :: r) h cs ss) False
      | _ => False
    | .aaload => match st with
      | .inl j :: .inr (.inr (t, some k)) :: r => cond (Nat.ble 8 t && Nat.blt t sd_nT && Nat.ble 3 (sd_fc t 0)) (∃ n : Nat, (n < sd_tn t ∧ j = nI n) ∧ rec nx ls (.inr (.inr (sd_fc t 0 - 3, h.2.2.1 t k n)) :: r) h cs ss) False
      | _ => False
    | .iastore => match st with
      | .inl x :: .inl j :: .inr (.inr (t, some k)) :: r => cond (Nat.ble 8 t && Nat.blt t sd_nT && Nat.beq (sd_fc t 0) 0) (∃ n : Nat, (n < sd_tn t ∧ j = nI n) ∧ rec nx ls r (sd_pi h t k n x) cs ss) False
      | _ => False
    | .bastore => match st with
      | .inl x :: .inl j :: .inr (.inr (t, some k)) :: r => cond (Nat.ble 8 t && Nat.blt t sd_nT && Nat.beq (sd_fc t 0) 2) (∃ n : Nat, (n < sd_tn t ∧ j = nI n ∧ (x = 0 ∨ x = 1)) ∧ rec nx ls r (sd_pi h t k n x) cs ss) False
      | _ => False
    | .lastore => match st with
      | .inr (.inl x) :: .inl j :: .inr (.inr (t, some k)) :: r => cond (Nat.ble 8 t && Nat.blt t sd_nT && Nat.beq (sd_fc t 0) 1) (∃ n : Nat, (n < sd_tn t ∧ j = nI n) ∧ rec nx ls r (sd_pl h t k n x) cs ss) False
      | _ => False
    | .aastore => match st with
      | .inr (.inr (u, some o)) :: .inl j :: .inr (.inr (t, some k)) :: r => cond (Nat.ble 8 t && Nat.blt t sd_nT && Nat.beq (sd_fc t 0) (u + 3) && Nat.blt u 8) (∃ n : Nat, (n < sd_tn t ∧ j = nI n) ∧ rec nx ls r (sd_pr h t k n (some o)) cs ss) False
      | _ => False
    | .arraylength => match st with
      | .inr (.inr (t, some k)) :: r => cond (Nat.beq t sd_nT && Nat.beq k 0) (match sc with
        | some (L, _) => rec nx ls (.inl (nI L) :: r) h cs ss
        | none => False) False
      | _ => False
    | .new _ => cond (!rm && Nat.ble (cs + 1) (sd_mc y) && Nat.ble (ss + a2) (sd_mz y)) (rec nx ls (.inr (.inr (a1, some (h.2.2.2 a1))) :: st) (sd_nw h a1) (cs + 1) (ss + a2)) False
    | .newarray _ => match st with | .inl x :: r => cond (!rm && Nat.ble (cs + 1) (sd_mc y) && Nat.ble (ss + a2) (sd_mz y)) (x = nI a2 ∧ rec nx ls (.inr (.inr (a1, some (h.2.2.2 a1))) :: r) (sd_nw h a1) (cs + 1) (ss + a2)) False | _ => False
    | .anewarray _ => match st with | .inl x :: r => cond (!rm && Nat.ble (cs + 1) (sd_mc y) && Nat.ble (ss + a2) (sd_mz y)) (x = nI a2 ∧ rec nx ls (.inr (.inr (a1, some (h.2.2.2 a1))) :: r) (sd_nw h a1) (cs + 1) (ss + a2)) False | _ => False
    | .invokevirtual _ => match sd_pop a2 st [] with
      | some (.inr (.inr (t, some k)) :: as, r) => cond (Nat.beq t (sd_vt a1) && Nat.ble (sd_cats r) 8) (sd_X1 rec nx ls r h cs ss l rm y a1 (.inr (.inr (t, some k)) :: as) ts) False
      | _ => False
    | .invokestatic _ => match sd_pop a2 st [] with
      | some (as, r) => cond (Nat.ble (sd_cats r) 8) (sd_X1 rec nx ls r h cs ss l rm y a1 as ts) False
      | _ => False
    | .invokespecial _ => cond (Nat.beq a4 3) (match st with | [.inr (.inr (_, some _))] => rec nx ls [] h cs ss | _ => False) (match sd_pop a2 st [] with
      | some (.inr (.inr (t, some k)) :: as, r) => cond (Nat.ble (sd_cats r) 8) (sd_X1 rec nx ls r h cs ss l rm y a1 (.inr (.inr (t, some k)) :: as) ts) False
      | _ => False)
    | .ireturn => match st with | [.inl x] => (match sd_rt y with | some .int => Q (some (.inl x)) h | some .boolean => (x = 0 ∨ x = 1) ∧ Q (some (.inl x)) h | _ => False) | _ => False
    | .lreturn => match st with | [.inr (.inl x)] => (match sd_rt y with | some .long => Q (some (.inr (.inl x))) h | _ => False) | _ => False
    | .areturn => match st with | [.inr (.inr x)] => (match sd_rt y with | some (.object _) => Q (some (.inr (.inr x))) h | _ => False) | _ => False
    | .return_ => match st with | [] => (match sd_rt y with | none => Q none h | _ => False) | _ => False
    | _ => False
theorem sd_beq {a b : Nat} (h : Nat.beq a b = true) : a = b := Nat.eq_of_beq_eq_true h
theorem sd_ble {a b : Nat} (h : Nat.ble a b = true) : a ≤ b := Nat.le_of_ble_eq_true h
theorem sd_blt {a b : Nat} (h : Nat.blt a b = true) : a < b := Nat.le_of_ble_eq_true h
theorem sd_cd_t {b : Bool} {P Q : Prop} (h : cond b P Q) : (b = true ∧ P) ∨ (b = false ∧ Q) := by cases b; exact Or.inr ⟨rfl, h⟩; exact Or.inl ⟨rfl, h⟩
theorem sd_cd_f {b : Bool} {P : Prop} (h : cond b P False) : b = true ∧ P := by cases b; exact h.elim; exact ⟨rfl, h⟩
theorem sd_ob_init2 : Cond.instanceMethod Lib.objectInit ∈ lw_tbl := by decide +kernel
theorem sd_ob_init3 : Cond.code Lib.objectInit ⟨#[0xb1]⟩ 1 none ∈ lw_tbl := by decide +kernel
section SX
variable {l : Launch} {sc : Option (Nat × (Nat → Int32))} {y : Nat} {rm : Bool} {Q : Option sd_V → sd_H → Prop} {rec : sd_Rc} {ls : List (Option sd_V)} {st : List sd_V} {h : sd_H} {cs ss : Nat}
theorem sd_X1s {nx a1 pc : Nat} {as r : List sd_V} {ts : List Nat} (hrec : ∀ pc ls st h cs ss, rec pc ls st h cs ss → sd_Wq l sc y rm Q pc ls st h cs ss) (hy : a1 < 145) (how : sd_how y a1 pc as) (hnx : nx = pc + 3) (hlen : as.length = (sd_mx a1).2.2.2.1) (hdp : sd_dp a1 + 1 ≤ sd_dp y) (hrest : sd_cats r ≤ 8) (hts : ts = [sd_mc a1, sd_mz a1])
    (hx : sd_X1 rec nx ls r h cs ss l rm y a1 as ts) (hcs : cs ≤ sd_mc y ∧ ss ≤ sd_mz y) : sd_Wq l sc y rm Q pc ls (as.reverse ++ r) h cs ss := by
  subst hts; subst hnx
  unfold sd_X1 at hx
  dsimp only at hx
  have fin : ∀ (cs' ss' : Nat), cs' = cs + sd_mc a1 → ss' = ss + sd_mz a1 → (cs + sd_mc a1 ≤ sd_mc y ∧ ss + sd_mz a1 ≤ sd_mz y) → cond rm (sd_E1 l a1 as h (fun v h' => rec (pc + 3) ls (v.toList ++ r) h' cs' ss')) (sd_E l a1 as h (fun v h' => rec (pc + 3) ls (v.toList ++ r) h' cs' ss')) → sd_Wq l sc y rm Q pc ls (as.reverse ++ r) h cs ss := by
    intro cs' ss' e1 e2 hc hE
    subst e1; subst e2
    refine sw_call hy how hlen hdp hrest hc fun hok => ?_
    cases rm with
    | true => exact sd_E_mono (hE (hok rfl)) fun v h' q => ⟨fun _ => q.1, hrec _ _ _ _ _ _ q.2⟩
    | false => exact sd_E_mono hE fun v h' q => ⟨fun z => (by cases z), hrec _ _ _ _ _ _ q⟩
  rcases sd_cd_t hx with ⟨hb, hx⟩ | ⟨-, hc, hx⟩
  · simp only [Bool.and_eq_true] at hb
    have e1 := sd_beq hb.1
    have e2 := sd_beq hb.2
    exact fin cs ss (by omega) (by omega) (by omega) hx
  · exact fin _ _ rfl rfl hc hx
theorem sd_ro_eq {rm : Bool} {h : sd_H} {T k i own : Nat} (hok : rm = true → sd_OK h) (hT : T < 8) (hk : k < h.2.2.2 T) (ho : own = sd_wn T i) : sd_ro rm h T k i own = h.2.2.1 T k i := by
  unfold sd_ro
  cases rm with
  | false => rfl
  | true =>
    obtain ⟨q1, q2⟩ := hok rfl T k i hT hk
    show (match own with | 1 => some k | 2 => some 0 | _ => h.2.2.1 T k i) = _
    split
    · exact (q1 ho.symm).symm
    · exact (q2 ho.symm).symm
    · rfl
/-- more is known at a state than its place: what the judgement itself assumes -/
theorem sd_Wq.with {pc : Nat} (k : (cs ≤ sd_mc y ∧ ss ≤ sd_mz y) → (∀ v ∈ st, sd_ok h v) → (rm = true → sd_OK h) → sd_Wq l sc y rm Q pc ls st h cs ss) : sd_Wq l sc y rm Q pc ls st h cs ss := by
  intro p e s m args below meth c R D base ad H locs lsA Z C hb hS hV hl hst hls hok hsc hrt hcs
  exact k hcs hst hok p e s m args below meth c R D base ad H locs lsA Z C hb hS hV hl hst hls hok hsc hrt hcs
theorem sx_iconst {pc nx a1 a2 a3 a4 w : Nat} {c : Int32} {d : Int64} {ts : List Nat} {k : Int} (hrec : ∀ pc ls st h cs ss, rec pc ls st h cs ss → sd_Wq l sc y rm Q pc ls st h cs ss) (hq : sd_ck (sd_nm y).cls (sd_nm y).name (sd_by y) (sd_ml y) (sd_dp y) (pc, .iconst k, nx, a1, a2, a3, a4, w, c, d, ts) = true) (hx : sd_X l sc y rm Q rec (pc, .iconst k, nx, a1, a2, a3, a4, w, c, d, ts) ls st h cs ss) : sd_Wq l sc y rm Q pc ls st h cs ss := by
  simp only [sd_ck, Bool.and_eq_true, decide_eq_true_eq] at hq
  obtain ⟨⟨hd, rfl⟩, hv⟩ := hq
  exact sw_iconst hd hv (hrec _ _ _ _ _ _ hx)
theorem sx_bipush {pc nx a1 a2 a3 a4 w : Nat} {c : Int32} {d : Int64} {ts : List Nat} {k : Int} (hrec : ∀ pc ls st h cs ss, rec pc ls st h cs ss → sd_Wq l sc y rm Q pc ls st h cs ss) (hq : sd_ck (sd_nm y).cls (sd_nm y).name (sd_by y) (sd_ml y) (sd_dp y) (pc, .bipush k, nx, a1, a2, a3, a4, w, c, d, ts) = true) (hx : sd_X l sc y rm Q rec (pc, .bipush k, nx, a1, a2, a3, a4, w, c, d, ts) ls st h cs ss) : sd_Wq l sc y rm Q pc ls st h cs ss := by
  simp only [sd_ck, Bool.and_eq_true, decide_eq_true_eq] at hq
  obtain ⟨⟨hd, rfl⟩, hv⟩ := hq
  exact sw_bipush hd hv (hrec _ _ _ _ _ _ hx)
theorem sx_sipush {pc nx a1 a2 a3 a4 w : Nat} {c : Int32} {d : Int64} {ts : List Nat} {k : Int} (hrec : ∀ pc ls st h cs ss, rec pc ls st h cs ss → sd_Wq l sc y rm Q pc ls st h cs ss) (hq : sd_ck (sd_nm y).cls (sd_nm y).name (sd_by y) (sd_ml y) (sd_dp y) (pc, .sipush k, nx, a1, a2, a3, a4, w, c, d, ts) = true) (hx : sd_X l sc y rm Q rec (pc, .sipush k, nx, a1, a2, a3, a4, w, c, d, ts) ls st h cs ss) : sd_Wq l sc y rm Q pc ls st h cs ss := by
  simp only [sd_ck, Bool.and_eq_true, decide_eq_true_eq] at hq
  obtain ⟨⟨hd, rfl⟩, hv⟩ := hq
  exact sw_sipush hd hv (hrec _ _ _ _ _ _ hx)
theorem sx_lconst {pc nx a1 a2 a3 a4 w : Nat} {c : Int32} {d : Int64} {ts : List Nat} {k : Fin 2} (hrec : ∀ pc ls st h cs ss, rec pc ls st h cs ss → sd_Wq l sc y rm Q pc ls st h cs ss) (hq : sd_ck (sd_nm y).cls (sd_nm y).name (sd_by y) (sd_ml y) (sd_dp y) (pc, .lconst k, nx, a1, a2, a3, a4, w, c, d, ts) = true) (hx : sd_X l sc y rm Q rec (pc, .lconst k, nx, a1, a2, a3, a4, w, c, d, ts) ls st h cs ss) : sd_Wq l sc y rm Q pc ls st h cs ss := by
  simp only [sd_ck, Bool.and_eq_true, decide_eq_true_eq] at hq
  obtain ⟨⟨hd, rfl⟩, hv⟩ := hq
  exact sw_lconst hd hv (hrec _ _ _ _ _ _ hx)
theorem sx_ldc {pc nx a1 a2 a3 a4 w : Nat} {c : Int32} {d : Int64} {ts : List Nat} {k : Nat} (hrec : ∀ pc ls st h cs ss, rec pc ls st h cs ss → sd_Wq l sc y rm Q pc ls st h cs ss) (hq : sd_ck (sd_nm y).cls (sd_nm y).name (sd_by y) (sd_ml y) (sd_dp y) (pc, .ldc k, nx, a1, a2, a3, a4, w, c, d, ts) = true) (hx : sd_X l sc y rm Q rec (pc, .ldc k, nx, a1, a2, a3, a4, w, c, d, ts) ls st h cs ss) : sd_Wq l sc y rm Q pc ls st h cs ss := by
  simp only [sd_ck, Bool.and_eq_true, decide_eq_true_eq] at hq
  obtain ⟨⟨hd, rfl⟩, hv⟩ := hq
  exact sw_ldc hd (sd_wd_mem hv) (hrec _ _ _ _ _ _ hx)
theorem sx_ldc_w {pc nx a1 a2 a3 a4 w : Nat} {c : Int32} {d : Int64} {ts : List Nat} {k : Nat} (hrec : ∀ pc ls st h cs ss, rec pc ls st h cs ss → sd_Wq l sc y rm Q pc ls st h cs ss) (hq : sd_ck (sd_nm y).cls (sd_nm y).name (sd_by y) (sd_ml y) (sd_dp y) (pc, .ldc_w k, nx, a1, a2, a3, a4, w, c, d, ts) = true) (hx : sd_X l sc y rm Q rec (pc, .ldc_w k, nx, a1, a2, a3, a4, w, c, d, ts) ls st h cs ss) : sd_Wq l sc y rm Q pc ls st h cs ss := by
  simp only [sd_ck, Bool.and_eq_true, decide_eq_true_eq] at hq
  obtain ⟨⟨hd, rfl⟩, hv⟩ := hq
  exact sw_ldcw hd (sd_wd_mem hv) (hrec _ _ _ _ _ _ hx)
theorem sx_ldc2_w {pc nx a1 a2 a3 a4 w : Nat} {c : Int32} {d : Int64} {ts : List Nat} {k : Nat} (hrec : ∀ pc ls st h cs ss, rec pc ls st h cs ss → sd_Wq l sc y rm Q pc ls st h cs ss) (hq : sd_ck (sd_nm y).cls (sd_nm y).name (sd_by y) (sd_ml y) (sd_dp y) (pc, .ldc2_w k, nx, a1, a2, a3, a4, w, c, d, ts) = true) (hx : sd_X l sc y rm Q rec (pc, .ldc2_w k, nx, a1, a2, a3, a4, w, c, d, ts) ls st h cs ss) : sd_Wq l sc y rm Q pc ls st h cs ss := by
  simp only [sd_ck, Bool.and_eq_true, decide_eq_true_eq] at hq
  obtain ⟨⟨hd, rfl⟩, hv⟩ := hq
  exact sw_ldc2 hd (sd_wd_mem hv) (hrec _ _ _ _ _ _ hx)
theorem sx_aconst_null {pc nx a1 a2 a3 a4 w : Nat} {c : Int32} {d : Int64} {ts : List Nat} (hrec : ∀ pc ls st h cs ss, rec pc ls st h cs ss → sd_Wq l sc y rm Q pc ls st h cs ss) (hq : sd_ck (sd_nm y).cls (sd_nm y).name (sd_by y) (sd_ml y) (sd_dp y) (pc, .aconst_null, nx, a1, a2, a3, a4, w, c, d, ts) = true) (hx : sd_X l sc y rm Q rec (pc, .aconst_null, nx, a1, a2, a3, a4, w, c, d, ts) ls st h cs ss) : sd_Wq l sc y rm Q pc ls st h cs ss := by
  simp only [sd_ck, Bool.and_eq_true, decide_eq_true_eq] at hq
  obtain ⟨hd, rfl⟩ := hq
  exact sw_null hd (hrec _ _ _ _ _ _ hx)
theorem sx_iload_n {pc nx a1 a2 a3 a4 w : Nat} {c : Int32} {d : Int64} {ts : List Nat} {k : Fin 4} (hrec : ∀ pc ls st h cs ss, rec pc ls st h cs ss → sd_Wq l sc y rm Q pc ls st h cs ss) (hq : sd_ck (sd_nm y).cls (sd_nm y).name (sd_by y) (sd_ml y) (sd_dp y) (pc, .iload_n k, nx, a1, a2, a3, a4, w, c, d, ts) = true) (hx : sd_X l sc y rm Q rec (pc, .iload_n k, nx, a1, a2, a3, a4, w, c, d, ts) ls st h cs ss) : sd_Wq l sc y rm Q pc ls st h cs ss := by
  simp only [sd_ck, Bool.and_eq_true, decide_eq_true_eq] at hq
  obtain ⟨⟨hd, rfl⟩, hv⟩ := hq
  unfold sd_X at hx
  dsimp only at hx
  split at hx
  · next x hg => exact sw_iload_n hd hv hg (hrec _ _ _ _ _ _ hx)
  · exact hx.elim
theorem sx_iload {pc nx a1 a2 a3 a4 w : Nat} {c : Int32} {d : Int64} {ts : List Nat} {k : Nat} (hrec : ∀ pc ls st h cs ss, rec pc ls st h cs ss → sd_Wq l sc y rm Q pc ls st h cs ss) (hq : sd_ck (sd_nm y).cls (sd_nm y).name (sd_by y) (sd_ml y) (sd_dp y) (pc, .iload k, nx, a1, a2, a3, a4, w, c, d, ts) = true) (hx : sd_X l sc y rm Q rec (pc, .iload k, nx, a1, a2, a3, a4, w, c, d, ts) ls st h cs ss) : sd_Wq l sc y rm Q pc ls st h cs ss := by
  simp only [sd_ck, Bool.and_eq_true, decide_eq_true_eq] at hq
  obtain ⟨⟨hd, rfl⟩, rfl⟩ := hq
  unfold sd_X at hx
  dsimp only at hx
  split at hx
  · next x hg => exact sw_iload hd hg (hrec _ _ _ _ _ _ hx)
  · exact hx.elim
theorem sx_lload_n {pc nx a1 a2 a3 a4 w : Nat} {c : Int32} {d : Int64} {ts : List Nat} {k : Fin 4} (hrec : ∀ pc ls st h cs ss, rec pc ls st h cs ss → sd_Wq l sc y rm Q pc ls st h cs ss) (hq : sd_ck (sd_nm y).cls (sd_nm y).name (sd_by y) (sd_ml y) (sd_dp y) (pc, .lload_n k, nx, a1, a2, a3, a4, w, c, d, ts) = true) (hx : sd_X l sc y rm Q rec (pc, .lload_n k, nx, a1, a2, a3, a4, w, c, d, ts) ls st h cs ss) : sd_Wq l sc y rm Q pc ls st h cs ss := by
  simp only [sd_ck, Bool.and_eq_true, decide_eq_true_eq] at hq
  obtain ⟨⟨hd, rfl⟩, hv⟩ := hq
  unfold sd_X at hx
  dsimp only at hx
  split at hx
  · next x hg => exact sw_lload_n hd hv hg (hrec _ _ _ _ _ _ hx)
  · exact hx.elim
theorem sx_lload {pc nx a1 a2 a3 a4 w : Nat} {c : Int32} {d : Int64} {ts : List Nat} {k : Nat} (hrec : ∀ pc ls st h cs ss, rec pc ls st h cs ss → sd_Wq l sc y rm Q pc ls st h cs ss) (hq : sd_ck (sd_nm y).cls (sd_nm y).name (sd_by y) (sd_ml y) (sd_dp y) (pc, .lload k, nx, a1, a2, a3, a4, w, c, d, ts) = true) (hx : sd_X l sc y rm Q rec (pc, .lload k, nx, a1, a2, a3, a4, w, c, d, ts) ls st h cs ss) : sd_Wq l sc y rm Q pc ls st h cs ss := by
  simp only [sd_ck, Bool.and_eq_true, decide_eq_true_eq] at hq
  obtain ⟨⟨hd, rfl⟩, rfl⟩ := hq
  unfold sd_X at hx
  dsimp only at hx
  split at hx
  · next x hg => exact sw_lload hd hg (hrec _ _ _ _ _ _ hx)
  · exact hx.elim
theorem sx_aload_n {pc nx a1 a2 a3 a4 w : Nat} {c : Int32} {d : Int64} {ts : List Nat} {k : Fin 4} (hrec : ∀ pc ls st h cs ss, rec pc ls st h cs ss → sd_Wq l sc y rm Q pc ls st h cs ss) (hq : sd_ck (sd_nm y).cls (sd_nm y).name (sd_by y) (sd_ml y) (sd_dp y) (pc, .aload_n k, nx, a1, a2, a3, a4, w, c, d, ts) = true) (hx : sd_X l sc y rm Q rec (pc, .aload_n k, nx, a1, a2, a3, a4, w, c, d, ts) ls st h cs ss) : sd_Wq l sc y rm Q pc ls st h cs ss := by
  simp only [sd_ck, Bool.and_eq_true, decide_eq_true_eq] at hq
  obtain ⟨⟨hd, rfl⟩, hv⟩ := hq
  unfold sd_X at hx
  dsimp only at hx
  split at hx
  · next x hg => exact sw_aload_n hd hv hg (hrec _ _ _ _ _ _ hx)
  · exact hx.elim
theorem sx_aload {pc nx a1 a2 a3 a4 w : Nat} {c : Int32} {d : Int64} {ts : List Nat} {k : Nat} (hrec : ∀ pc ls st h cs ss, rec pc ls st h cs ss → sd_Wq l sc y rm Q pc ls st h cs ss) (hq : sd_ck (sd_nm y).cls (sd_nm y).name (sd_by y) (sd_ml y) (sd_dp y) (pc, .aload k, nx, a1, a2, a3, a4, w, c, d, ts) = true) (hx : sd_X l sc y rm Q rec (pc, .aload k, nx, a1, a2, a3, a4, w, c, d, ts) ls st h cs ss) : sd_Wq l sc y rm Q pc ls st h cs ss := by
  simp only [sd_ck, Bool.and_eq_true, decide_eq_true_eq] at hq
  obtain ⟨⟨hd, rfl⟩, rfl⟩ := hq
  unfold sd_X at hx
  dsimp only at hx
  split at hx
  · next x hg => exact sw_aload hd hg (hrec _ _ _ _ _ _ hx)
  · exact hx.elim
theorem sx_istore_n {pc nx a1 a2 a3 a4 w : Nat} {c : Int32} {d : Int64} {ts : List Nat} {k : Fin 4} (hrec : ∀ pc ls st h cs ss, rec pc ls st h cs ss → sd_Wq l sc y rm Q pc ls st h cs ss) (hq : sd_ck (sd_nm y).cls (sd_nm y).name (sd_by y) (sd_ml y) (sd_dp y) (pc, .istore_n k, nx, a1, a2, a3, a4, w, c, d, ts) = true) (hx : sd_X l sc y rm Q rec (pc, .istore_n k, nx, a1, a2, a3, a4, w, c, d, ts) ls st h cs ss) : sd_Wq l sc y rm Q pc ls st h cs ss := by
  simp only [sd_ck, Bool.and_eq_true, decide_eq_true_eq] at hq
  obtain ⟨⟨hd, rfl⟩, hv, hn⟩ := hq
  unfold sd_X at hx
  dsimp only at hx
  split at hx
  · next x r => exact sw_istore_n hd hv hn (hrec _ _ _ _ _ _ hx)
  · exact hx.elim
theorem sx_istore {pc nx a1 a2 a3 a4 w : Nat} {c : Int32} {d : Int64} {ts : List Nat} {k : Nat} (hrec : ∀ pc ls st h cs ss, rec pc ls st h cs ss → sd_Wq l sc y rm Q pc ls st h cs ss) (hq : sd_ck (sd_nm y).cls (sd_nm y).name (sd_by y) (sd_ml y) (sd_dp y) (pc, .istore k, nx, a1, a2, a3, a4, w, c, d, ts) = true) (hx : sd_X l sc y rm Q rec (pc, .istore k, nx, a1, a2, a3, a4, w, c, d, ts) ls st h cs ss) : sd_Wq l sc y rm Q pc ls st h cs ss := by
  simp only [sd_ck, Bool.and_eq_true, decide_eq_true_eq] at hq
  obtain ⟨⟨hd, rfl⟩, rfl, hn⟩ := hq
  unfold sd_X at hx
  dsimp only at hx
  split at hx
  · next x r => exact sw_istore hd hn (hrec _ _ _ _ _ _ hx)
  · exact hx.elim
theorem sx_lstore_n {pc nx a1 a2 a3 a4 w : Nat} {c : Int32} {d : Int64} {ts : List Nat} {k : Fin 4} (hrec : ∀ pc ls st h cs ss, rec pc ls st h cs ss → sd_Wq l sc y rm Q pc ls st h cs ss) (hq : sd_ck (sd_nm y).cls (sd_nm y).name (sd_by y) (sd_ml y) (sd_dp y) (pc, .lstore_n k, nx, a1, a2, a3, a4, w, c, d, ts) = true) (hx : sd_X l sc y rm Q rec (pc, .lstore_n k, nx, a1, a2, a3, a4, w, c, d, ts) ls st h cs ss) : sd_Wq l sc y rm Q pc ls st h cs ss := by
  simp only [sd_ck, Bool.and_eq_true, decide_eq_true_eq] at hq
  obtain ⟨⟨hd, rfl⟩, hv, hn⟩ := hq
  unfold sd_X at hx
  dsimp only at hx
  split at hx
  · next x r => exact sw_lstore_n hd hv hn (hrec _ _ _ _ _ _ hx)
  · exact hx.elim
theorem sx_lstore {pc nx a1 a2 a3 a4 w : Nat} {c : Int32} {d : Int64} {ts : List Nat} {k : Nat} (hrec : ∀ pc ls st h cs ss, rec pc ls st h cs ss → sd_Wq l sc y rm Q pc ls st h cs ss) (hq : sd_ck (sd_nm y).cls (sd_nm y).name (sd_by y) (sd_ml y) (sd_dp y) (pc, .lstore k, nx, a1, a2, a3, a4, w, c, d, ts) = true) (hx : sd_X l sc y rm Q rec (pc, .lstore k, nx, a1, a2, a3, a4, w, c, d, ts) ls st h cs ss) : sd_Wq l sc y rm Q pc ls st h cs ss := by
  simp only [sd_ck, Bool.and_eq_true, decide_eq_true_eq] at hq
  obtain ⟨⟨hd, rfl⟩, rfl, hn⟩ := hq
  unfold sd_X at hx
  dsimp only at hx
  split at hx
  · next x r => exact sw_lstore hd hn (hrec _ _ _ _ _ _ hx)
  · exact hx.elim
theorem sx_astore_n {pc nx a1 a2 a3 a4 w : Nat} {c : Int32} {d : Int64} {ts : List Nat} {k : Fin 4} (hrec : ∀ pc ls st h cs ss, rec pc ls st h cs ss → sd_Wq l sc y rm Q pc ls st h cs ss) (hq : sd_ck (sd_nm y).cls (sd_nm y).name (sd_by y) (sd_ml y) (sd_dp y) (pc, .astore_n k, nx, a1, a2, a3, a4, w, c, d, ts) = true) (hx : sd_X l sc y rm Q rec (pc, .astore_n k, nx, a1, a2, a3, a4, w, c, d, ts) ls st h cs ss) : sd_Wq l sc y rm Q pc ls st h cs ss := by
  simp only [sd_ck, Bool.and_eq_true, decide_eq_true_eq] at hq
  obtain ⟨⟨hd, rfl⟩, hv, hn⟩ := hq
  unfold sd_X at hx
  dsimp only at hx
  split at hx
  · next x r => exact sw_astore_n hd hv hn (hrec _ _ _ _ _ _ hx)
  · exact hx.elim
theorem sx_astore {pc nx a1 a2 a3 a4 w : Nat} {c : Int32} {d : Int64} {ts : List Nat} {k : Nat} (hrec : ∀ pc ls st h cs ss, rec pc ls st h cs ss → sd_Wq l sc y rm Q pc ls st h cs ss) (hq : sd_ck (sd_nm y).cls (sd_nm y).name (sd_by y) (sd_ml y) (sd_dp y) (pc, .astore k, nx, a1, a2, a3, a4, w, c, d, ts) = true) (hx : sd_X l sc y rm Q rec (pc, .astore k, nx, a1, a2, a3, a4, w, c, d, ts) ls st h cs ss) : sd_Wq l sc y rm Q pc ls st h cs ss := by
  simp only [sd_ck, Bool.and_eq_true, decide_eq_true_eq] at hq
  obtain ⟨⟨hd, rfl⟩, rfl, hn⟩ := hq
  unfold sd_X at hx
  dsimp only at hx
  split at hx
  · next x r => exact sw_astore hd hn (hrec _ _ _ _ _ _ hx)
  · exact hx.elim
theorem sx_iinc {pc nx a1 a2 a3 a4 w : Nat} {c : Int32} {d : Int64} {ts : List Nat} {k : Nat} {n : Int} (hrec : ∀ pc ls st h cs ss, rec pc ls st h cs ss → sd_Wq l sc y rm Q pc ls st h cs ss) (hq : sd_ck (sd_nm y).cls (sd_nm y).name (sd_by y) (sd_ml y) (sd_dp y) (pc, .iinc k n, nx, a1, a2, a3, a4, w, c, d, ts) = true) (hx : sd_X l sc y rm Q rec (pc, .iinc k n, nx, a1, a2, a3, a4, w, c, d, ts) ls st h cs ss) : sd_Wq l sc y rm Q pc ls st h cs ss := by
  simp only [sd_ck, Bool.and_eq_true, decide_eq_true_eq] at hq
  obtain ⟨⟨hd, rfl⟩, rfl, hn, hv⟩ := hq
  unfold sd_X at hx
  dsimp only at hx
  split at hx
  · next x hg => exact sw_iinc hd hg hv hn (hrec _ _ _ _ _ _ hx)
  · exact hx.elim
theorem sx_iadd {pc nx a1 a2 a3 a4 w : Nat} {c : Int32} {d : Int64} {ts : List Nat} (hrec : ∀ pc ls st h cs ss, rec pc ls st h cs ss → sd_Wq l sc y rm Q pc ls st h cs ss) (hq : sd_ck (sd_nm y).cls (sd_nm y).name (sd_by y) (sd_ml y) (sd_dp y) (pc, .iadd, nx, a1, a2, a3, a4, w, c, d, ts) = true) (hx : sd_X l sc y rm Q rec (pc, .iadd, nx, a1, a2, a3, a4, w, c, d, ts) ls st h cs ss) : sd_Wq l sc y rm Q pc ls st h cs ss := by
  simp only [sd_ck, Bool.and_eq_true, decide_eq_true_eq] at hq
  obtain ⟨hd, rfl⟩ := hq
  unfold sd_X at hx
  dsimp only at hx
  split at hx
  · exact sw_iadd hd (hrec _ _ _ _ _ _ hx)
  · exact hx.elim
theorem sx_isub {pc nx a1 a2 a3 a4 w : Nat} {c : Int32} {d : Int64} {ts : List Nat} (hrec : ∀ pc ls st h cs ss, rec pc ls st h cs ss → sd_Wq l sc y rm Q pc ls st h cs ss) (hq : sd_ck (sd_nm y).cls (sd_nm y).name (sd_by y) (sd_ml y) (sd_dp y) (pc, .isub, nx, a1, a2, a3, a4, w, c, d, ts) = true) (hx : sd_X l sc y rm Q rec (pc, .isub, nx, a1, a2, a3, a4, w, c, d, ts) ls st h cs ss) : sd_Wq l sc y rm Q pc ls st h cs ss := by
  simp only [sd_ck, Bool.and_eq_true, decide_eq_true_eq] at hq
  obtain ⟨hd, rfl⟩ := hq
  unfold sd_X at hx
  dsimp only at hx
  split at hx
  · exact sw_isub hd (hrec _ _ _ _ _ _ hx)
  · exact hx.elim
theorem sx_imul {pc nx a1 a2 a3 a4 w : Nat} {c : Int32} {d : Int64} {ts : List Nat} (hrec : ∀ pc ls st h cs ss, rec pc ls st h cs ss → sd_Wq l sc y rm Q pc ls st h cs ss) (hq : sd_ck (sd_nm y).cls (sd_nm y).name (sd_by y) (sd_ml y) (sd_dp y) (pc, .imul, nx, a1, a2, a3, a4, w, c, d, ts) = true) (hx : sd_X l sc y rm Q rec (pc, .imul, nx, a1, a2, a3, a4, w, c, d, ts) ls st h cs ss) : sd_Wq l sc y rm Q pc ls st h cs ss := by
  simp only [sd_ck, Bool.and_eq_true, decide_eq_true_eq] at hq
  obtain ⟨hd, rfl⟩ := hq
  unfold sd_X at hx
  dsimp only at hx
  split at hx
  · exact sw_imul hd (hrec _ _ _ _ _ _ hx)
  · exact hx.elim
theorem sx_iand {pc nx a1 a2 a3 a4 w : Nat} {c : Int32} {d : Int64} {ts : List Nat} (hrec : ∀ pc ls st h cs ss, rec pc ls st h cs ss → sd_Wq l sc y rm Q pc ls st h cs ss) (hq : sd_ck (sd_nm y).cls (sd_nm y).name (sd_by y) (sd_ml y) (sd_dp y) (pc, .iand, nx, a1, a2, a3, a4, w, c, d, ts) = true) (hx : sd_X l sc y rm Q rec (pc, .iand, nx, a1, a2, a3, a4, w, c, d, ts) ls st h cs ss) : sd_Wq l sc y rm Q pc ls st h cs ss := by
  simp only [sd_ck, Bool.and_eq_true, decide_eq_true_eq] at hq
  obtain ⟨hd, rfl⟩ := hq
  unfold sd_X at hx
  dsimp only at hx
  split at hx
  · exact sw_iand hd (hrec _ _ _ _ _ _ hx)
  · exact hx.elim
theorem sx_ior {pc nx a1 a2 a3 a4 w : Nat} {c : Int32} {d : Int64} {ts : List Nat} (hrec : ∀ pc ls st h cs ss, rec pc ls st h cs ss → sd_Wq l sc y rm Q pc ls st h cs ss) (hq : sd_ck (sd_nm y).cls (sd_nm y).name (sd_by y) (sd_ml y) (sd_dp y) (pc, .ior, nx, a1, a2, a3, a4, w, c, d, ts) = true) (hx : sd_X l sc y rm Q rec (pc, .ior, nx, a1, a2, a3, a4, w, c, d, ts) ls st h cs ss) : sd_Wq l sc y rm Q pc ls st h cs ss := by
  simp only [sd_ck, Bool.and_eq_true, decide_eq_true_eq] at hq
  obtain ⟨hd, rfl⟩ := hq
  unfold sd_X at hx
  dsimp only at hx
  split at hx
  · exact sw_ior hd (hrec _ _ _ _ _ _ hx)
  · exact hx.elim
theorem sx_ixor {pc nx a1 a2 a3 a4 w : Nat} {c : Int32} {d : Int64} {ts : List Nat} (hrec : ∀ pc ls st h cs ss, rec pc ls st h cs ss → sd_Wq l sc y rm Q pc ls st h cs ss) (hq : sd_ck (sd_nm y).cls (sd_nm y).name (sd_by y) (sd_ml y) (sd_dp y) (pc, .ixor, nx, a1, a2, a3, a4, w, c, d, ts) = true) (hx : sd_X l sc y rm Q rec (pc, .ixor, nx, a1, a2, a3, a4, w, c, d, ts) ls st h cs ss) : sd_Wq l sc y rm Q pc ls st h cs ss := by
  simp only [sd_ck, Bool.and_eq_true, decide_eq_true_eq] at hq
  obtain ⟨hd, rfl⟩ := hq
  unfold sd_X at hx
  dsimp only at hx
  split at hx
  · exact sw_ixor hd (hrec _ _ _ _ _ _ hx)
  · exact hx.elim
theorem sx_ishl {pc nx a1 a2 a3 a4 w : Nat} {c : Int32} {d : Int64} {ts : List Nat} (hrec : ∀ pc ls st h cs ss, rec pc ls st h cs ss → sd_Wq l sc y rm Q pc ls st h cs ss) (hq : sd_ck (sd_nm y).cls (sd_nm y).name (sd_by y) (sd_ml y) (sd_dp y) (pc, .ishl, nx, a1, a2, a3, a4, w, c, d, ts) = true) (hx : sd_X l sc y rm Q rec (pc, .ishl, nx, a1, a2, a3, a4, w, c, d, ts) ls st h cs ss) : sd_Wq l sc y rm Q pc ls st h cs ss := by
  simp only [sd_ck, Bool.and_eq_true, decide_eq_true_eq] at hq
  obtain ⟨hd, rfl⟩ := hq
  unfold sd_X at hx
  dsimp only at hx
  split at hx
  · exact sw_ishl hd (hrec _ _ _ _ _ _ hx)
  · exact hx.elim
theorem sx_ishr {pc nx a1 a2 a3 a4 w : Nat} {c : Int32} {d : Int64} {ts : List Nat} (hrec : ∀ pc ls st h cs ss, rec pc ls st h cs ss → sd_Wq l sc y rm Q pc ls st h cs ss) (hq : sd_ck (sd_nm y).cls (sd_nm y).name (sd_by y) (sd_ml y) (sd_dp y) (pc, .ishr, nx, a1, a2, a3, a4, w, c, d, ts) = true) (hx : sd_X l sc y rm Q rec (pc, .ishr, nx, a1, a2, a3, a4, w, c, d, ts) ls st h cs ss) : sd_Wq l sc y rm Q pc ls st h cs ss := by
  simp only [sd_ck, Bool.and_eq_true, decide_eq_true_eq] at hq
  obtain ⟨hd, rfl⟩ := hq
  unfold sd_X at hx
  dsimp only at hx
  split at hx
  · exact sw_ishr hd (hrec _ _ _ _ _ _ hx)
  · exact hx.elim
theorem sx_idiv {pc nx a1 a2 a3 a4 w : Nat} {c : Int32} {d : Int64} {ts : List Nat} (hrec : ∀ pc ls st h cs ss, rec pc ls st h cs ss → sd_Wq l sc y rm Q pc ls st h cs ss) (hq : sd_ck (sd_nm y).cls (sd_nm y).name (sd_by y) (sd_ml y) (sd_dp y) (pc, .idiv, nx, a1, a2, a3, a4, w, c, d, ts) = true) (hx : sd_X l sc y rm Q rec (pc, .idiv, nx, a1, a2, a3, a4, w, c, d, ts) ls st h cs ss) : sd_Wq l sc y rm Q pc ls st h cs ss := by
  simp only [sd_ck, Bool.and_eq_true, decide_eq_true_eq] at hq
  obtain ⟨hd, rfl⟩ := hq
  unfold sd_X at hx
  dsimp only at hx
  split at hx
  · exact sw_idiv hd hx.1 (hrec _ _ _ _ _ _ hx.2)
  · exact hx.elim
theorem sx_irem {pc nx a1 a2 a3 a4 w : Nat} {c : Int32} {d : Int64} {ts : List Nat} (hrec : ∀ pc ls st h cs ss, rec pc ls st h cs ss → sd_Wq l sc y rm Q pc ls st h cs ss) (hq : sd_ck (sd_nm y).cls (sd_nm y).name (sd_by y) (sd_ml y) (sd_dp y) (pc, .irem, nx, a1, a2, a3, a4, w, c, d, ts) = true) (hx : sd_X l sc y rm Q rec (pc, .irem, nx, a1, a2, a3, a4, w, c, d, ts) ls st h cs ss) : sd_Wq l sc y rm Q pc ls st h cs ss := by
  simp only [sd_ck, Bool.and_eq_true, decide_eq_true_eq] at hq
  obtain ⟨hd, rfl⟩ := hq
  unfold sd_X at hx
  dsimp only at hx
  split at hx
  · exact sw_irem hd hx.1 (hrec _ _ _ _ _ _ hx.2)
  · exact hx.elim
theorem sx_ineg {pc nx a1 a2 a3 a4 w : Nat} {c : Int32} {d : Int64} {ts : List Nat} (hrec : ∀ pc ls st h cs ss, rec pc ls st h cs ss → sd_Wq l sc y rm Q pc ls st h cs ss) (hq : sd_ck (sd_nm y).cls (sd_nm y).name (sd_by y) (sd_ml y) (sd_dp y) (pc, .ineg, nx, a1, a2, a3, a4, w, c, d, ts) = true) (hx : sd_X l sc y rm Q rec (pc, .ineg, nx, a1, a2, a3, a4, w, c, d, ts) ls st h cs ss) : sd_Wq l sc y rm Q pc ls st h cs ss := by
  simp only [sd_ck, Bool.and_eq_true, decide_eq_true_eq] at hq
  obtain ⟨hd, rfl⟩ := hq
  unfold sd_X at hx
  dsimp only at hx
  split at hx
  · exact sw_ineg hd (hrec _ _ _ _ _ _ hx)
  · exact hx.elim
theorem sx_ladd {pc nx a1 a2 a3 a4 w : Nat} {c : Int32} {d : Int64} {ts : List Nat} (hrec : ∀ pc ls st h cs ss, rec pc ls st h cs ss → sd_Wq l sc y rm Q pc ls st h cs ss) (hq : sd_ck (sd_nm y).cls (sd_nm y).name (sd_by y) (sd_ml y) (sd_dp y) (pc, .ladd, nx, a1, a2, a3, a4, w, c, d, ts) = true) (hx : sd_X l sc y rm Q rec (pc, .ladd, nx, a1, a2, a3, a4, w, c, d, ts) ls st h cs ss) : sd_Wq l sc y rm Q pc ls st h cs ss := by
  simp only [sd_ck, Bool.and_eq_true, decide_eq_true_eq] at hq
  obtain ⟨hd, rfl⟩ := hq
  unfold sd_X at hx
  dsimp only at hx
  split at hx
  · exact sw_ladd hd (hrec _ _ _ _ _ _ hx)
  · exact hx.elim
theorem sx_lsub {pc nx a1 a2 a3 a4 w : Nat} {c : Int32} {d : Int64} {ts : List Nat} (hrec : ∀ pc ls st h cs ss, rec pc ls st h cs ss → sd_Wq l sc y rm Q pc ls st h cs ss) (hq : sd_ck (sd_nm y).cls (sd_nm y).name (sd_by y) (sd_ml y) (sd_dp y) (pc, .lsub, nx, a1, a2, a3, a4, w, c, d, ts) = true) (hx : sd_X l sc y rm Q rec (pc, .lsub, nx, a1, a2, a3, a4, w, c, d, ts) ls st h cs ss) : sd_Wq l sc y rm Q pc ls st h cs ss := by
  simp only [sd_ck, Bool.and_eq_true, decide_eq_true_eq] at hq
  obtain ⟨hd, rfl⟩ := hq
  unfold sd_X at hx
  dsimp only at hx
  split at hx
  · exact sw_lsub hd (hrec _ _ _ _ _ _ hx)
  · exact hx.elim
theorem sx_lmul {pc nx a1 a2 a3 a4 w : Nat} {c : Int32} {d : Int64} {ts : List Nat} (hrec : ∀ pc ls st h cs ss, rec pc ls st h cs ss → sd_Wq l sc y rm Q pc ls st h cs ss) (hq : sd_ck (sd_nm y).cls (sd_nm y).name (sd_by y) (sd_ml y) (sd_dp y) (pc, .lmul, nx, a1, a2, a3, a4, w, c, d, ts) = true) (hx : sd_X l sc y rm Q rec (pc, .lmul, nx, a1, a2, a3, a4, w, c, d, ts) ls st h cs ss) : sd_Wq l sc y rm Q pc ls st h cs ss := by
  simp only [sd_ck, Bool.and_eq_true, decide_eq_true_eq] at hq
  obtain ⟨hd, rfl⟩ := hq
  unfold sd_X at hx
  dsimp only at hx
  split at hx
  · exact sw_lmul hd (hrec _ _ _ _ _ _ hx)
  · exact hx.elim
theorem sx_land {pc nx a1 a2 a3 a4 w : Nat} {c : Int32} {d : Int64} {ts : List Nat} (hrec : ∀ pc ls st h cs ss, rec pc ls st h cs ss → sd_Wq l sc y rm Q pc ls st h cs ss) (hq : sd_ck (sd_nm y).cls (sd_nm y).name (sd_by y) (sd_ml y) (sd_dp y) (pc, .land, nx, a1, a2, a3, a4, w, c, d, ts) = true) (hx : sd_X l sc y rm Q rec (pc, .land, nx, a1, a2, a3, a4, w, c, d, ts) ls st h cs ss) : sd_Wq l sc y rm Q pc ls st h cs ss := by
  simp only [sd_ck, Bool.and_eq_true, decide_eq_true_eq] at hq
  obtain ⟨hd, rfl⟩ := hq
  unfold sd_X at hx
  dsimp only at hx
  split at hx
  · exact sw_land hd (hrec _ _ _ _ _ _ hx)
  · exact hx.elim
theorem sx_lor {pc nx a1 a2 a3 a4 w : Nat} {c : Int32} {d : Int64} {ts : List Nat} (hrec : ∀ pc ls st h cs ss, rec pc ls st h cs ss → sd_Wq l sc y rm Q pc ls st h cs ss) (hq : sd_ck (sd_nm y).cls (sd_nm y).name (sd_by y) (sd_ml y) (sd_dp y) (pc, .lor, nx, a1, a2, a3, a4, w, c, d, ts) = true) (hx : sd_X l sc y rm Q rec (pc, .lor, nx, a1, a2, a3, a4, w, c, d, ts) ls st h cs ss) : sd_Wq l sc y rm Q pc ls st h cs ss := by
  simp only [sd_ck, Bool.and_eq_true, decide_eq_true_eq] at hq
  obtain ⟨hd, rfl⟩ := hq
  unfold sd_X at hx
  dsimp only at hx
  split at hx
  · exact sw_lor hd (hrec _ _ _ _ _ _ hx)
  · exact hx.elim
theorem sx_lxor {pc nx a1 a2 a3 a4 w : Nat} {c : Int32} {d : Int64} {ts : List Nat} (hrec : ∀ pc ls st h cs ss, rec pc ls st h cs ss → sd_Wq l sc y rm Q pc ls st h cs ss) (hq : sd_ck (sd_nm y).cls (sd_nm y).name (sd_by y) (sd_ml y) (sd_dp y) (pc, .lxor, nx, a1, a2, a3, a4, w, c, d, ts) = true) (hx : sd_X l sc y rm Q rec (pc, .lxor, nx, a1, a2, a3, a4, w, c, d, ts) ls st h cs ss) : sd_Wq l sc y rm Q pc ls st h cs ss := by
  simp only [sd_ck, Bool.and_eq_true, decide_eq_true_eq] at hq
  obtain ⟨hd, rfl⟩ := hq
  unfold sd_X at hx
  dsimp only at hx
  split at hx
  · exact sw_lxor hd (hrec _ _ _ _ _ _ hx)
  · exact hx.elim
theorem sx_ldiv {pc nx a1 a2 a3 a4 w : Nat} {c : Int32} {d : Int64} {ts : List Nat} (hrec : ∀ pc ls st h cs ss, rec pc ls st h cs ss → sd_Wq l sc y rm Q pc ls st h cs ss) (hq : sd_ck (sd_nm y).cls (sd_nm y).name (sd_by y) (sd_ml y) (sd_dp y) (pc, .ldiv, nx, a1, a2, a3, a4, w, c, d, ts) = true) (hx : sd_X l sc y rm Q rec (pc, .ldiv, nx, a1, a2, a3, a4, w, c, d, ts) ls st h cs ss) : sd_Wq l sc y rm Q pc ls st h cs ss := by
  simp only [sd_ck, Bool.and_eq_true, decide_eq_true_eq] at hq
  obtain ⟨hd, rfl⟩ := hq
  unfold sd_X at hx
  dsimp only at hx
  split at hx
  · exact sw_ldiv hd hx.1 (hrec _ _ _ _ _ _ hx.2)
  · exact hx.elim
theorem sx_lrem {pc nx a1 a2 a3 a4 w : Nat} {c : Int32} {d : Int64} {ts : List Nat} (hrec : ∀ pc ls st h cs ss, rec pc ls st h cs ss → sd_Wq l sc y rm Q pc ls st h cs ss) (hq : sd_ck (sd_nm y).cls (sd_nm y).name (sd_by y) (sd_ml y) (sd_dp y) (pc, .lrem, nx, a1, a2, a3, a4, w, c, d, ts) = true) (hx : sd_X l sc y rm Q rec (pc, .lrem, nx, a1, a2, a3, a4, w, c, d, ts) ls st h cs ss) : sd_Wq l sc y rm Q pc ls st h cs ss := by
  simp only [sd_ck, Bool.and_eq_true, decide_eq_true_eq] at hq
  obtain ⟨hd, rfl⟩ := hq
  unfold sd_X at hx
  dsimp only at hx
  split at hx
  · exact sw_lrem hd hx.1 (hrec _ _ _ _ _ _ hx.2)
  · exact hx.elim
theorem sx_lshl {pc nx a1 a2 a3 a4 w : Nat} {c : Int32} {d : Int64} {ts : List Nat} (hrec : ∀ pc ls st h cs ss, rec pc ls st h cs ss → sd_Wq l sc y rm Q pc ls st h cs ss) (hq : sd_ck (sd_nm y).cls (sd_nm y).name (sd_by y) (sd_ml y) (sd_dp y) (pc, .lshl, nx, a1, a2, a3, a4, w, c, d, ts) = true) (hx : sd_X l sc y rm Q rec (pc, .lshl, nx, a1, a2, a3, a4, w, c, d, ts) ls st h cs ss) : sd_Wq l sc y rm Q pc ls st h cs ss := by
  simp only [sd_ck, Bool.and_eq_true, decide_eq_true_eq] at hq
  obtain ⟨hd, rfl⟩ := hq
  unfold sd_X at hx
  dsimp only at hx
  split at hx
  · exact sw_lshl hd (hrec _ _ _ _ _ _ hx)
  · exact hx.elim
theorem sx_lshr {pc nx a1 a2 a3 a4 w : Nat} {c : Int32} {d : Int64} {ts : List Nat} (hrec : ∀ pc ls st h cs ss, rec pc ls st h cs ss → sd_Wq l sc y rm Q pc ls st h cs ss) (hq : sd_ck (sd_nm y).cls (sd_nm y).name (sd_by y) (sd_ml y) (sd_dp y) (pc, .lshr, nx, a1, a2, a3, a4, w, c, d, ts) = true) (hx : sd_X l sc y rm Q rec (pc, .lshr, nx, a1, a2, a3, a4, w, c, d, ts) ls st h cs ss) : sd_Wq l sc y rm Q pc ls st h cs ss := by
  simp only [sd_ck, Bool.and_eq_true, decide_eq_true_eq] at hq
  obtain ⟨hd, rfl⟩ := hq
  unfold sd_X at hx
  dsimp only at hx
  split at hx
  · exact sw_lshr hd (hrec _ _ _ _ _ _ hx)
  · exact hx.elim
theorem sx_lushr {pc nx a1 a2 a3 a4 w : Nat} {c : Int32} {d : Int64} {ts : List Nat} (hrec : ∀ pc ls st h cs ss, rec pc ls st h cs ss → sd_Wq l sc y rm Q pc ls st h cs ss) (hq : sd_ck (sd_nm y).cls (sd_nm y).name (sd_by y) (sd_ml y) (sd_dp y) (pc, .lushr, nx, a1, a2, a3, a4, w, c, d, ts) = true) (hx : sd_X l sc y rm Q rec (pc, .lushr, nx, a1, a2, a3, a4, w, c, d, ts) ls st h cs ss) : sd_Wq l sc y rm Q pc ls st h cs ss := by
  simp only [sd_ck, Bool.and_eq_true, decide_eq_true_eq] at hq
  obtain ⟨hd, rfl⟩ := hq
  unfold sd_X at hx
  dsimp only at hx
  split at hx
  · exact sw_lushr hd (hrec _ _ _ _ _ _ hx)
  · exact hx.elim
theorem sx_i2l {pc nx a1 a2 a3 a4 w : Nat} {c : Int32} {d : Int64} {ts : List Nat} (hrec : ∀ pc ls st h cs ss, rec pc ls st h cs ss → sd_Wq l sc y rm Q pc ls st h cs ss) (hq : sd_ck (sd_nm y).cls (sd_nm y).name (sd_by y) (sd_ml y) (sd_dp y) (pc, .i2l, nx, a1, a2, a3, a4, w, c, d, ts) = true) (hx : sd_X l sc y rm Q rec (pc, .i2l, nx, a1, a2, a3, a4, w, c, d, ts) ls st h cs ss) : sd_Wq l sc y rm Q pc ls st h cs ss := by
  simp only [sd_ck, Bool.and_eq_true, decide_eq_true_eq] at hq
  obtain ⟨hd, rfl⟩ := hq
  unfold sd_X at hx
  dsimp only at hx
  split at hx
  · exact sw_i2l hd (hrec _ _ _ _ _ _ hx)
  · exact hx.elim
theorem sx_l2i {pc nx a1 a2 a3 a4 w : Nat} {c : Int32} {d : Int64} {ts : List Nat} (hrec : ∀ pc ls st h cs ss, rec pc ls st h cs ss → sd_Wq l sc y rm Q pc ls st h cs ss) (hq : sd_ck (sd_nm y).cls (sd_nm y).name (sd_by y) (sd_ml y) (sd_dp y) (pc, .l2i, nx, a1, a2, a3, a4, w, c, d, ts) = true) (hx : sd_X l sc y rm Q rec (pc, .l2i, nx, a1, a2, a3, a4, w, c, d, ts) ls st h cs ss) : sd_Wq l sc y rm Q pc ls st h cs ss := by
  simp only [sd_ck, Bool.and_eq_true, decide_eq_true_eq] at hq
  obtain ⟨hd, rfl⟩ := hq
  unfold sd_X at hx
  dsimp only at hx
  split at hx
  · exact sw_l2i hd (hrec _ _ _ _ _ _ hx)
  · exact hx.elim
theorem sx_lcmp {pc nx a1 a2 a3 a4 w : Nat} {c : Int32} {d : Int64} {ts : List Nat} (hrec : ∀ pc ls st h cs ss, rec pc ls st h cs ss → sd_Wq l sc y rm Q pc ls st h cs ss) (hq : sd_ck (sd_nm y).cls (sd_nm y).name (sd_by y) (sd_ml y) (sd_dp y) (pc, .lcmp, nx, a1, a2, a3, a4, w, c, d, ts) = true) (hx : sd_X l sc y rm Q rec (pc, .lcmp, nx, a1, a2, a3, a4, w, c, d, ts) ls st h cs ss) : sd_Wq l sc y rm Q pc ls st h cs ss := by
  simp only [sd_ck, Bool.and_eq_true, decide_eq_true_eq] at hq
  obtain ⟨hd, rfl⟩ := hq
  unfold sd_X at hx
  dsimp only at hx
  split at hx
  · exact sw_lcmp hd (hrec _ _ _ _ _ _ hx)
  · exact hx.elim
theorem sx_dup {pc nx a1 a2 a3 a4 w : Nat} {c : Int32} {d : Int64} {ts : List Nat} (hrec : ∀ pc ls st h cs ss, rec pc ls st h cs ss → sd_Wq l sc y rm Q pc ls st h cs ss) (hq : sd_ck (sd_nm y).cls (sd_nm y).name (sd_by y) (sd_ml y) (sd_dp y) (pc, .dup, nx, a1, a2, a3, a4, w, c, d, ts) = true) (hx : sd_X l sc y rm Q rec (pc, .dup, nx, a1, a2, a3, a4, w, c, d, ts) ls st h cs ss) : sd_Wq l sc y rm Q pc ls st h cs ss := by
  simp only [sd_ck, Bool.and_eq_true, decide_eq_true_eq] at hq
  obtain ⟨hd, rfl⟩ := hq
  unfold sd_X at hx
  dsimp only at hx
  split at hx
  · exact sw_dup hd (fun ⟨_, q⟩ => by cases q) (hrec _ _ _ _ _ _ hx)
  · exact sw_dup hd (fun ⟨_, q⟩ => by cases q) (hrec _ _ _ _ _ _ hx)
  · exact hx.elim
theorem sx_pop {pc nx a1 a2 a3 a4 w : Nat} {c : Int32} {d : Int64} {ts : List Nat} (hrec : ∀ pc ls st h cs ss, rec pc ls st h cs ss → sd_Wq l sc y rm Q pc ls st h cs ss) (hq : sd_ck (sd_nm y).cls (sd_nm y).name (sd_by y) (sd_ml y) (sd_dp y) (pc, .pop, nx, a1, a2, a3, a4, w, c, d, ts) = true) (hx : sd_X l sc y rm Q rec (pc, .pop, nx, a1, a2, a3, a4, w, c, d, ts) ls st h cs ss) : sd_Wq l sc y rm Q pc ls st h cs ss := by
  simp only [sd_ck, Bool.and_eq_true, decide_eq_true_eq] at hq
  obtain ⟨hd, rfl⟩ := hq
  unfold sd_X at hx
  dsimp only at hx
  split at hx
  · exact sw_pop hd (fun ⟨_, q⟩ => by cases q) (hrec _ _ _ _ _ _ hx)
  · exact sw_pop hd (fun ⟨_, q⟩ => by cases q) (hrec _ _ _ _ _ _ hx)
  · exact hx.elim
theorem sx_dup2 {pc nx a1 a2 a3 a4 w : Nat} {c : Int32} {d : Int64} {ts : List Nat} (hrec : ∀ pc ls st h cs ss, rec pc ls st h cs ss → sd_Wq l sc y rm Q pc ls st h cs ss) (hq : sd_ck (sd_nm y).cls (sd_nm y).name (sd_by y) (sd_ml y) (sd_dp y) (pc, .dup2, nx, a1, a2, a3, a4, w, c, d, ts) = true) (hx : sd_X l sc y rm Q rec (pc, .dup2, nx, a1, a2, a3, a4, w, c, d, ts) ls st h cs ss) : sd_Wq l sc y rm Q pc ls st h cs ss := by
  simp only [sd_ck, Bool.and_eq_true, decide_eq_true_eq] at hq
  obtain ⟨hd, rfl⟩ := hq
  unfold sd_X at hx
  dsimp only at hx
  split at hx
  · exact sw_dup2 hd (fun ⟨_, q⟩ => by cases q) (fun ⟨_, q⟩ => by cases q) (hrec _ _ _ _ _ _ hx)
  · exact hx.elim
theorem sx_if_eq {pc nx a1 a2 a3 a4 w : Nat} {c : Int32} {d : Int64} {ts : List Nat} {o : Int} (hrec : ∀ pc ls st h cs ss, rec pc ls st h cs ss → sd_Wq l sc y rm Q pc ls st h cs ss) (hq : sd_ck (sd_nm y).cls (sd_nm y).name (sd_by y) (sd_ml y) (sd_dp y) (pc, .ifCond .eq o, nx, a1, a2, a3, a4, w, c, d, ts) = true) (hx : sd_X l sc y rm Q rec (pc, .ifCond .eq o, nx, a1, a2, a3, a4, w, c, d, ts) ls st h cs ss) : sd_Wq l sc y rm Q pc ls st h cs ss := by
  simp only [sd_ck, Bool.and_eq_true, decide_eq_true_eq] at hq
  obtain ⟨⟨hd, rfl⟩, ht⟩ := hq
  unfold sd_X at hx
  dsimp only at hx
  split at hx
  · exact sw_if_eq hd ht (fun q => hrec _ _ _ _ _ _ (hx.1 q)) (fun q => hrec _ _ _ _ _ _ (hx.2 q))
  · exact hx.elim
theorem sx_icmp_eq {pc nx a1 a2 a3 a4 w : Nat} {c : Int32} {d : Int64} {ts : List Nat} {o : Int} (hrec : ∀ pc ls st h cs ss, rec pc ls st h cs ss → sd_Wq l sc y rm Q pc ls st h cs ss) (hq : sd_ck (sd_nm y).cls (sd_nm y).name (sd_by y) (sd_ml y) (sd_dp y) (pc, .if_icmp .eq o, nx, a1, a2, a3, a4, w, c, d, ts) = true) (hx : sd_X l sc y rm Q rec (pc, .if_icmp .eq o, nx, a1, a2, a3, a4, w, c, d, ts) ls st h cs ss) : sd_Wq l sc y rm Q pc ls st h cs ss := by
  simp only [sd_ck, Bool.and_eq_true, decide_eq_true_eq] at hq
  obtain ⟨⟨hd, rfl⟩, ht⟩ := hq
  unfold sd_X at hx
  dsimp only at hx
  split at hx
  · exact sw_icmp_eq hd ht (fun q => hrec _ _ _ _ _ _ (hx.1 q)) (fun q => hrec _ _ _ _ _ _ (hx.2 q))
  · exact hx.elim
theorem sx_if_ne {pc nx a1 a2 a3 a4 w : Nat} {c : Int32} {d : Int64} {ts : List Nat} {o : Int} (hrec : ∀ pc ls st h cs ss, rec pc ls st h cs ss → sd_Wq l sc y rm Q pc ls st h cs ss) (hq : sd_ck (sd_nm y).cls (sd_nm y).name (sd_by y) (sd_ml y) (sd_dp y) (pc, .ifCond .ne o, nx, a1, a2, a3, a4, w, c, d, ts) = true) (hx : sd_X l sc y rm Q rec (pc, .ifCond .ne o, nx, a1, a2, a3, a4, w, c, d, ts) ls st h cs ss) : sd_Wq l sc y rm Q pc ls st h cs ss := by
  simp only [sd_ck, Bool.and_eq_true, decide_eq_true_eq] at hq
  obtain ⟨⟨hd, rfl⟩, ht⟩ := hq
  unfold sd_X at hx
  dsimp only at hx
  split at hx
  · exact sw_if_ne hd ht (fun q => hrec _ _ _ _ _ _ (hx.1 q)) (fun q => hrec _ _ _ _ _ _ (hx.2 q))
  · exact hx.elim
theorem sx_icmp_ne {pc nx a1 a2 a3 a4 w : Nat} {c : Int32} {d : Int64} {ts : List Nat} {o : Int} (hrec : ∀ pc ls st h cs ss, rec pc ls st h cs ss → sd_Wq l sc y rm Q pc ls st h cs ss) (hq : sd_ck (sd_nm y).cls (sd_nm y).name (sd_by y) (sd_ml y) (sd_dp y) (pc, .if_icmp .ne o, nx, a1, a2, a3, a4, w, c, d, ts) = true) (hx : sd_X l sc y rm Q rec (pc, .if_icmp .ne o, nx, a1, a2, a3, a4, w, c, d, ts) ls st h cs ss) : sd_Wq l sc y rm Q pc ls st h cs ss := by
  simp only [sd_ck, Bool.and_eq_true, decide_eq_true_eq] at hq
  obtain ⟨⟨hd, rfl⟩, ht⟩ := hq
  unfold sd_X at hx
  dsimp only at hx
  split at hx
  · exact sw_icmp_ne hd ht (fun q => hrec _ _ _ _ _ _ (hx.1 q)) (fun q => hrec _ _ _ _ _ _ (hx.2 q))
  · exact hx.elim
theorem sx_if_lt {pc nx a1 a2 a3 a4 w : Nat} {c : Int32} {d : Int64} {ts : List Nat} {o : Int} (hrec : ∀ pc ls st h cs ss, rec pc ls st h cs ss → sd_Wq l sc y rm Q pc ls st h cs ss) (hq : sd_ck (sd_nm y).cls (sd_nm y).name (sd_by y) (sd_ml y) (sd_dp y) (pc, .ifCond .lt o, nx, a1, a2, a3, a4, w, c, d, ts) = true) (hx : sd_X l sc y rm Q rec (pc, .ifCond .lt o, nx, a1, a2, a3, a4, w, c, d, ts) ls st h cs ss) : sd_Wq l sc y rm Q pc ls st h cs ss := by
  simp only [sd_ck, Bool.and_eq_true, decide_eq_true_eq] at hq
  obtain ⟨⟨hd, rfl⟩, ht⟩ := hq
  unfold sd_X at hx
  dsimp only at hx
  split at hx
  · exact sw_if_lt hd ht (fun q => hrec _ _ _ _ _ _ (hx.1 q)) (fun q => hrec _ _ _ _ _ _ (hx.2 q))
  · exact hx.elim
theorem sx_icmp_lt {pc nx a1 a2 a3 a4 w : Nat} {c : Int32} {d : Int64} {ts : List Nat} {o : Int} (hrec : ∀ pc ls st h cs ss, rec pc ls st h cs ss → sd_Wq l sc y rm Q pc ls st h cs ss) (hq : sd_ck (sd_nm y).cls (sd_nm y).name (sd_by y) (sd_ml y) (sd_dp y) (pc, .if_icmp .lt o, nx, a1, a2, a3, a4, w, c, d, ts) = true) (hx : sd_X l sc y rm Q rec (pc, .if_icmp .lt o, nx, a1, a2, a3, a4, w, c, d, ts) ls st h cs ss) : sd_Wq l sc y rm Q pc ls st h cs ss := by
  simp only [sd_ck, Bool.and_eq_true, decide_eq_true_eq] at hq
  obtain ⟨⟨hd, rfl⟩, ht⟩ := hq
  unfold sd_X at hx
  dsimp only at hx
  split at hx
  · exact sw_icmp_lt hd ht (fun q => hrec _ _ _ _ _ _ (hx.1 q)) (fun q => hrec _ _ _ _ _ _ (hx.2 q))
  · exact hx.elim
theorem sx_if_ge {pc nx a1 a2 a3 a4 w : Nat} {c : Int32} {d : Int64} {ts : List Nat} {o : Int} (hrec : ∀ pc ls st h cs ss, rec pc ls st h cs ss → sd_Wq l sc y rm Q pc ls st h cs ss) (hq : sd_ck (sd_nm y).cls (sd_nm y).name (sd_by y) (sd_ml y) (sd_dp y) (pc, .ifCond .ge o, nx, a1, a2, a3, a4, w, c, d, ts) = true) (hx : sd_X l sc y rm Q rec (pc, .ifCond .ge o, nx, a1, a2, a3, a4, w, c, d, ts) ls st h cs ss) : sd_Wq l sc y rm Q pc ls st h cs ss := by
  simp only [sd_ck, Bool.and_eq_true, decide_eq_true_eq] at hq
  obtain ⟨⟨hd, rfl⟩, ht⟩ := hq
  unfold sd_X at hx
  dsimp only at hx
  split at hx
  · exact sw_if_ge hd ht (fun q => hrec _ _ _ _ _ _ (hx.1 q)) (fun q => hrec _ _ _ _ _ _ (hx.2 q))
  · exact hx.elim
theorem sx_icmp_ge {pc nx a1 a2 a3 a4 w : Nat} {c : Int32} {d : Int64} {ts : List Nat} {o : Int} (hrec : ∀ pc ls st h cs ss, rec pc ls st h cs ss → sd_Wq l sc y rm Q pc ls st h cs ss) (hq : sd_ck (sd_nm y).cls (sd_nm y).name (sd_by y) (sd_ml y) (sd_dp y) (pc, .if_icmp .ge o, nx, a1, a2, a3, a4, w, c, d, ts) = true) (hx : sd_X l sc y rm Q rec (pc, .if_icmp .ge o, nx, a1, a2, a3, a4, w, c, d, ts) ls st h cs ss) : sd_Wq l sc y rm Q pc ls st h cs ss := by
  simp only [sd_ck, Bool.and_eq_true, decide_eq_true_eq] at hq
  obtain ⟨⟨hd, rfl⟩, ht⟩ := hq
  unfold sd_X at hx
  dsimp only at hx
  split at hx
  · exact sw_icmp_ge hd ht (fun q => hrec _ _ _ _ _ _ (hx.1 q)) (fun q => hrec _ _ _ _ _ _ (hx.2 q))
  · exact hx.elim
theorem sx_if_gt {pc nx a1 a2 a3 a4 w : Nat} {c : Int32} {d : Int64} {ts : List Nat} {o : Int} (hrec : ∀ pc ls st h cs ss, rec pc ls st h cs ss → sd_Wq l sc y rm Q pc ls st h cs ss) (hq : sd_ck (sd_nm y).cls (sd_nm y).name (sd_by y) (sd_ml y) (sd_dp y) (pc, .ifCond .gt o, nx, a1, a2, a3, a4, w, c, d, ts) = true) (hx : sd_X l sc y rm Q rec (pc, .ifCond .gt o, nx, a1, a2, a3, a4, w, c, d, ts) ls st h cs ss) : sd_Wq l sc y rm Q pc ls st h cs ss := by
  simp only [sd_ck, Bool.and_eq_true, decide_eq_true_eq] at hq
  obtain ⟨⟨hd, rfl⟩, ht⟩ := hq
  unfold sd_X at hx
  dsimp only at hx
  split at hx
  · exact sw_if_gt hd ht (fun q => hrec _ _ _ _ _ _ (hx.1 q)) (fun q => hrec _ _ _ _ _ _ (hx.2 q))
  · exact hx.elim
theorem sx_icmp_gt {pc nx a1 a2 a3 a4 w : Nat} {c : Int32} {d : Int64} {ts : List Nat} {o : Int} (hrec : ∀ pc ls st h cs ss, rec pc ls st h cs ss → sd_Wq l sc y rm Q pc ls st h cs ss) (hq : sd_ck (sd_nm y).cls (sd_nm y).name (sd_by y) (sd_ml y) (sd_dp y) (pc, .if_icmp .gt o, nx, a1, a2, a3, a4, w, c, d, ts) = true) (hx : sd_X l sc y rm Q rec (pc, .if_icmp .gt o, nx, a1, a2, a3, a4, w, c, d, ts) ls st h cs ss) : sd_Wq l sc y rm Q pc ls st h cs ss := by
  simp only [sd_ck, Bool.and_eq_true, decide_eq_true_eq] at hq
  obtain ⟨⟨hd, rfl⟩, ht⟩ := hq
  unfold sd_X at hx
  dsimp only at hx
  split at hx
  · exact sw_icmp_gt hd ht (fun q => hrec _ _ _ _ _ _ (hx.1 q)) (fun q => hrec _ _ _ _ _ _ (hx.2 q))
  · exact hx.elim
theorem sx_if_le {pc nx a1 a2 a3 a4 w : Nat} {c : Int32} {d : Int64} {ts : List Nat} {o : Int} (hrec : ∀ pc ls st h cs ss, rec pc ls st h cs ss → sd_Wq l sc y rm Q pc ls st h cs ss) (hq : sd_ck (sd_nm y).cls (sd_nm y).name (sd_by y) (sd_ml y) (sd_dp y) (pc, .ifCond .le o, nx, a1, a2, a3, a4, w, c, d, ts) = true) (hx : sd_X l sc y rm Q rec (pc, .ifCond .le o, nx, a1, a2, a3, a4, w, c, d, ts) ls st h cs ss) : sd_Wq l sc y rm Q pc ls st h cs ss := by
  simp only [sd_ck, Bool.and_eq_true, decide_eq_true_eq] at hq
  obtain ⟨⟨hd, rfl⟩, ht⟩ := hq
  unfold sd_X at hx
  dsimp only at hx
  split at hx
  · exact sw_if_le hd ht (fun q => hrec _ _ _ _ _ _ (hx.1 q)) (fun q => hrec _ _ _ _ _ _ (hx.2 q))
  · exact hx.elim
theorem sx_icmp_le {pc nx a1 a2 a3 a4 w : Nat} {c : Int32} {d : Int64} {ts : List Nat} {o : Int} (hrec : ∀ pc ls st h cs ss, rec pc ls st h cs ss → sd_Wq l sc y rm Q pc ls st h cs ss) (hq : sd_ck (sd_nm y).cls (sd_nm y).name (sd_by y) (sd_ml y) (sd_dp y) (pc, .if_icmp .le o, nx, a1, a2, a3, a4, w, c, d, ts) = true) (hx : sd_X l sc y rm Q rec (pc, .if_icmp .le o, nx, a1, a2, a3, a4, w, c, d, ts) ls st h cs ss) : sd_Wq l sc y rm Q pc ls st h cs ss := by
  simp only [sd_ck, Bool.and_eq_true, decide_eq_true_eq] at hq
  obtain ⟨⟨hd, rfl⟩, ht⟩ := hq
  unfold sd_X at hx
  dsimp only at hx
  split at hx
  · exact sw_icmp_le hd ht (fun q => hrec _ _ _ _ _ _ (hx.1 q)) (fun q => hrec _ _ _ _ _ _ (hx.2 q))
  · exact hx.elim
theorem sx_goto {pc nx a1 a2 a3 a4 w : Nat} {c : Int32} {d : Int64} {ts : List Nat} {o : Int} (hrec : ∀ pc ls st h cs ss, rec pc ls st h cs ss → sd_Wq l sc y rm Q pc ls st h cs ss) (hq : sd_ck (sd_nm y).cls (sd_nm y).name (sd_by y) (sd_ml y) (sd_dp y) (pc, .goto o, nx, a1, a2, a3, a4, w, c, d, ts) = true) (hx : sd_X l sc y rm Q rec (pc, .goto o, nx, a1, a2, a3, a4, w, c, d, ts) ls st h cs ss) : sd_Wq l sc y rm Q pc ls st h cs ss := by
  simp only [sd_ck, Bool.and_eq_true, decide_eq_true_eq] at hq
  obtain ⟨⟨hd, rfl⟩, ht⟩ := hq
  exact sw_goto hd ht (hrec _ _ _ _ _ _ hx)
theorem sx_ifnull {pc nx a1 a2 a3 a4 w : Nat} {c : Int32} {d : Int64} {ts : List Nat} {o : Int} (hrec : ∀ pc ls st h cs ss, rec pc ls st h cs ss → sd_Wq l sc y rm Q pc ls st h cs ss) (hq : sd_ck (sd_nm y).cls (sd_nm y).name (sd_by y) (sd_ml y) (sd_dp y) (pc, .ifnull o, nx, a1, a2, a3, a4, w, c, d, ts) = true) (hx : sd_X l sc y rm Q rec (pc, .ifnull o, nx, a1, a2, a3, a4, w, c, d, ts) ls st h cs ss) : sd_Wq l sc y rm Q pc ls st h cs ss := by
  simp only [sd_ck, Bool.and_eq_true, decide_eq_true_eq] at hq
  obtain ⟨⟨hd, rfl⟩, ht⟩ := hq
  unfold sd_X at hx
  dsimp only at hx
  split at hx
  · exact sw_ifnull hd ht (fun q => hrec _ _ _ _ _ _ (hx.1 q)) (fun n q => hrec _ _ _ _ _ _ (hx.2 n q))
  · exact hx.elim
theorem sx_ifnonnull {pc nx a1 a2 a3 a4 w : Nat} {c : Int32} {d : Int64} {ts : List Nat} {o : Int} (hrec : ∀ pc ls st h cs ss, rec pc ls st h cs ss → sd_Wq l sc y rm Q pc ls st h cs ss) (hq : sd_ck (sd_nm y).cls (sd_nm y).name (sd_by y) (sd_ml y) (sd_dp y) (pc, .ifnonnull o, nx, a1, a2, a3, a4, w, c, d, ts) = true) (hx : sd_X l sc y rm Q rec (pc, .ifnonnull o, nx, a1, a2, a3, a4, w, c, d, ts) ls st h cs ss) : sd_Wq l sc y rm Q pc ls st h cs ss := by
  simp only [sd_ck, Bool.and_eq_true, decide_eq_true_eq] at hq
  obtain ⟨⟨hd, rfl⟩, ht⟩ := hq
  unfold sd_X at hx
  dsimp only at hx
  split at hx
  · exact sw_ifnonnull hd ht (fun n q => hrec _ _ _ _ _ _ (hx.1 n q)) (fun q => hrec _ _ _ _ _ _ (hx.2 q))
  · exact hx.elim
theorem sd_sw_mono {k k' : Nat → Prop} {x : Int32} {d : Nat} (hk : ∀ t, k t → k' t) : ∀ (ts : List Nat) (c : Int32), sd_sw k x d c ts → sd_sw k' x d c ts
  | [], _, h => hk d h
  | t :: ts, c, h => ⟨fun q => hk t (h.1 q), fun q => sd_sw_mono hk ts (c + 1) (h.2 q)⟩
theorem sx_tableswitch {pc nx a1 a2 a3 a4 w : Nat} {c : Int32} {d : Int64} {ts : List Nat} {df lo hi : Int} {of : Array Int} (hrec : ∀ pc ls st h cs ss, rec pc ls st h cs ss → sd_Wq l sc y rm Q pc ls st h cs ss) (hq : sd_ck (sd_nm y).cls (sd_nm y).name (sd_by y) (sd_ml y) (sd_dp y) (pc, .tableswitch df lo hi of, nx, a1, a2, a3, a4, w, c, d, ts) = true) (hx : sd_X l sc y rm Q rec (pc, .tableswitch df lo hi of, nx, a1, a2, a3, a4, w, c, d, ts) ls st h cs ss) : sd_Wq l sc y rm Q pc ls st h cs ss := by
  simp only [sd_ck, Bool.and_eq_true, decide_eq_true_eq] at hq
  obtain ⟨hd, h1, h2, h3, h4, h5, h6⟩ := hq
  unfold sd_X at hx
  dsimp only at hx
  split at hx
  · exact sw_tab hd h1 h2 h3 h4 h5 h6 (sd_sw_mono (fun t q => hrec _ _ _ _ _ _ q) _ _ hx)
  · exact hx.elim
theorem sx_getfield {pc nx a1 a2 a3 a4 w : Nat} {c : Int32} {d : Int64} {ts : List Nat} {k : Nat} (hrec : ∀ pc ls st h cs ss, rec pc ls st h cs ss → sd_Wq l sc y rm Q pc ls st h cs ss) (hq : sd_ck (sd_nm y).cls (sd_nm y).name (sd_by y) (sd_ml y) (sd_dp y) (pc, .getfield k, nx, a1, a2, a3, a4, w, c, d, ts) = true) (hx : sd_X l sc y rm Q rec (pc, .getfield k, nx, a1, a2, a3, a4, w, c, d, ts) ls st h cs ss) : sd_Wq l sc y rm Q pc ls st h cs ss := by
  simp only [sd_ck, sd_fld, Bool.and_eq_true, decide_eq_true_eq] at hq
  obtain ⟨⟨⟨hd, rfl⟩, ⟨⟨h1, h2⟩, h3⟩, h4⟩, h5⟩ := hq
  unfold sd_X at hx
  dsimp only at hx
  split at hx
  · next t kk r =>
    obtain ⟨hb, hx⟩ := sd_cd_f hx
    have e := sd_beq hb
    subst e
    refine sd_Wq.with fun hcs hst hok => sw_getf hd h1 h2 (sd_wd_mem h4) ?_
    have hk := sd_okR (sd_o0 hst) (show t < 46 by omega)
    unfold sd_rd
    rw [h3]
    split at hx
    · exact hrec _ _ _ _ _ _ hx
    · exact hrec _ _ _ _ _ _ hx
    · exact hrec _ _ _ _ _ _ hx
    · rw [sd_ro_eq hok h1 hk h5] at hx
      exact hrec _ _ _ _ _ _ hx
  · exact hx.elim
theorem sx_putfield {pc nx a1 a2 a3 a4 w : Nat} {c : Int32} {d : Int64} {ts : List Nat} {k : Nat} (hrec : ∀ pc ls st h cs ss, rec pc ls st h cs ss → sd_Wq l sc y rm Q pc ls st h cs ss) (hq : sd_ck (sd_nm y).cls (sd_nm y).name (sd_by y) (sd_ml y) (sd_dp y) (pc, .putfield k, nx, a1, a2, a3, a4, w, c, d, ts) = true) (hx : sd_X l sc y rm Q rec (pc, .putfield k, nx, a1, a2, a3, a4, w, c, d, ts) ls st h cs ss) : sd_Wq l sc y rm Q pc ls st h cs ss := by
  simp only [sd_ck, sd_fld, Bool.and_eq_true, decide_eq_true_eq] at hq
  obtain ⟨⟨⟨hd, rfl⟩, ⟨⟨h1, h2⟩, h3⟩, h4⟩, h5⟩ := hq
  have hf : sd_fin y a1 a2 := h5.imp (fun q => q.2) (fun q => q.2)
  unfold sd_X at hx
  dsimp only at hx
  split at hx
  · next x t kk r =>
    obtain ⟨hb, hx⟩ := sd_cd_f hx
    have e := sd_beq hb
    subst e
    split at hx
    · exact sw_putI hd h1 h2 (sd_wd_mem h4) hf (Or.inl h3) (hrec _ _ _ _ _ _ hx)
    · exact sw_putI hd h1 h2 (sd_wd_mem h4) hf (Or.inr ⟨h3, hx.1⟩) (hrec _ _ _ _ _ _ hx.2)
    · exact hx.elim
  · next x t kk r =>
    obtain ⟨hb, hx⟩ := sd_cd_f hx
    simp only [Bool.and_eq_true] at hb
    have e := sd_beq hb.1
    subst e
    exact sw_putL hd h1 h2 (sd_wd_mem h4) hf (h3.trans (sd_beq hb.2)) (hrec _ _ _ _ _ _ hx)
  · next x t kk r =>
    obtain ⟨hb, hx⟩ := sd_cd_f hx
    simp only [Bool.and_eq_true, Bool.not_eq_true'] at hb
    obtain ⟨⟨⟨b1, b2⟩, b3⟩, b4⟩ := hb
    have e := sd_beq b1
    subst e
    exact sw_putR hd h1 h2 (sd_wd_mem h4) hf (h3.trans (sd_beq b3)) rfl (sd_blt b4) b2 (hrec _ _ _ _ _ _ hx)
  · exact hx.elim
theorem sx_iaload {pc nx a1 a2 a3 a4 w : Nat} {c : Int32} {d : Int64} {ts : List Nat} (hrec : ∀ pc ls st h cs ss, rec pc ls st h cs ss → sd_Wq l sc y rm Q pc ls st h cs ss) (hq : sd_ck (sd_nm y).cls (sd_nm y).name (sd_by y) (sd_ml y) (sd_dp y) (pc, .iaload, nx, a1, a2, a3, a4, w, c, d, ts) = true) (hx : sd_X l sc y rm Q rec (pc, .iaload, nx, a1, a2, a3, a4, w, c, d, ts) ls st h cs ss) : sd_Wq l sc y rm Q pc ls st h cs ss := by
  simp only [sd_ck, Bool.and_eq_true, decide_eq_true_eq] at hq
  obtain ⟨hd, rfl⟩ := hq
  unfold sd_X at hx
  dsimp only at hx
  split at hx
  · next j t k r =>
    rcases sd_cd_t hx with ⟨hb, hx⟩ | ⟨-, hx⟩
    · have e := sd_beq hb
      subst e
      split at hx
      · next L xs =>
        obtain ⟨rfl, n, hn, hx⟩ := hx
        exact sw_sld rfl hn.1 hn.2.1 hn.2.2 hd (hrec _ _ _ _ _ _ hx)
      · exact hx.elim
    · obtain ⟨hb, n, hn, hx⟩ := sd_cd_f hx
      simp only [Bool.and_eq_true] at hb
      obtain ⟨⟨b1, b2⟩, b3⟩ := hb
      have b1 := sd_ble b1
      have b2 := sd_blt b2
      have b3 := sd_beq b3
      refine sw_ald (Or.inl ⟨rfl, b3⟩) hd b1 b2 hn.1 hn.2 ?_
      unfold sd_rd
      rw [sd_fcA t b2 b1 n, b3]
      exact hrec _ _ _ _ _ _ hx
  · exact hx.elim
theorem sx_laload {pc nx a1 a2 a3 a4 w : Nat} {c : Int32} {d : Int64} {ts : List Nat} (hrec : ∀ pc ls st h cs ss, rec pc ls st h cs ss → sd_Wq l sc y rm Q pc ls st h cs ss) (hq : sd_ck (sd_nm y).cls (sd_nm y).name (sd_by y) (sd_ml y) (sd_dp y) (pc, .laload, nx, a1, a2, a3, a4, w, c, d, ts) = true) (hx : sd_X l sc y rm Q rec (pc, .laload, nx, a1, a2, a3, a4, w, c, d, ts) ls st h cs ss) : sd_Wq l sc y rm Q pc ls st h cs ss := by
  simp only [sd_ck, Bool.and_eq_true, decide_eq_true_eq] at hq
  obtain ⟨hd, rfl⟩ := hq
  unfold sd_X at hx
  dsimp only at hx
  split at hx
  · next j t k r =>
    obtain ⟨hb, n, hn, hx⟩ := sd_cd_f hx
    simp only [Bool.and_eq_true] at hb
    obtain ⟨⟨b1, b2⟩, b3⟩ := hb
    have b1 := sd_ble b1
    have b2 := sd_blt b2
    have b3 := sd_beq b3
    refine sw_ald (Or.inr (Or.inl ⟨rfl, b3⟩)) hd b1 b2 hn.1 hn.2 ?_
    unfold sd_rd
    rw [sd_fcA t b2 b1 n, b3]
    exact hrec _ _ _ _ _ _ hx
  · exact hx.elim
theorem sx_baload {pc nx a1 a2 a3 a4 w : Nat} {c : Int32} {d : Int64} {ts : List Nat} (hrec : ∀ pc ls st h cs ss, rec pc ls st h cs ss → sd_Wq l sc y rm Q pc ls st h cs ss) (hq : sd_ck (sd_nm y).cls (sd_nm y).name (sd_by y) (sd_ml y) (sd_dp y) (pc, .baload, nx, a1, a2, a3, a4, w, c, d, ts) = true) (hx : sd_X l sc y rm Q rec (pc, .baload, nx, a1, a2, a3, a4, w, c, d, ts) ls st h cs ss) : sd_Wq l sc y rm Q pc ls st h cs ss := by
  simp only [sd_ck, Bool.and_eq_true, decide_eq_true_eq] at hq
  obtain ⟨hd, rfl⟩ := hq
  unfold sd_X at hx
  dsimp only at hx
  split at hx
  · next j t k r =>
    obtain ⟨hb, n, hn, hx⟩ := sd_cd_f hx
    simp only [Bool.and_eq_true] at hb
    obtain ⟨⟨b1, b2⟩, b3⟩ := hb
    have b1 := sd_ble b1
    have b2 := sd_blt b2
    have b3 := sd_beq b3
    refine sw_ald (Or.inr (Or.inr (Or.inl ⟨rfl, b3⟩))) hd b1 b2 hn.1 hn.2 ?_
    unfold sd_rd
    rw [sd_fcA t b2 b1 n, b3]
    exact hrec _ _ _ _ _ _ hx
  · exact hx.elim
theorem sx_aaload {pc nx a1 a2 a3 a4 w : Nat} {c : Int32} {d : Int64} {ts : List Nat} (hrec : ∀ pc ls st h cs ss, rec pc ls st h cs ss → sd_Wq l sc y rm Q pc ls st h cs ss) (hq : sd_ck (sd_nm y).cls (sd_nm y).name (sd_by y) (sd_ml y) (sd_dp y) (pc, .aaload, nx, a1, a2, a3, a4, w, c, d, ts) = true) (hx : sd_X l sc y rm Q rec (pc, .aaload, nx, a1, a2, a3, a4, w, c, d, ts) ls st h cs ss) : sd_Wq l sc y rm Q pc ls st h cs ss := by
  simp only [sd_ck, Bool.and_eq_true, decide_eq_true_eq] at hq
  obtain ⟨hd, rfl⟩ := hq
  unfold sd_X at hx
  dsimp only at hx
  split at hx
  · next j t k r =>
    obtain ⟨hb, n, hn, hx⟩ := sd_cd_f hx
    simp only [Bool.and_eq_true] at hb
    obtain ⟨⟨b1, b2⟩, b3⟩ := hb
    have b1 := sd_ble b1
    have b2 := sd_blt b2
    have b3 := sd_ble b3
    refine sw_ald (Or.inr (Or.inr (Or.inr ⟨rfl, b3⟩))) hd b1 b2 hn.1 hn.2 ?_
    obtain ⟨u, hu⟩ : ∃ u, sd_fc t 0 = u + 3 := ⟨sd_fc t 0 - 3, by omega⟩
    unfold sd_rd
    rw [sd_fcA t b2 b1 n, hu]
    rw [hu] at hx
    exact hrec _ _ _ _ _ _ hx
  · exact hx.elim
theorem sx_iastore {pc nx a1 a2 a3 a4 w : Nat} {c : Int32} {d : Int64} {ts : List Nat} (hrec : ∀ pc ls st h cs ss, rec pc ls st h cs ss → sd_Wq l sc y rm Q pc ls st h cs ss) (hq : sd_ck (sd_nm y).cls (sd_nm y).name (sd_by y) (sd_ml y) (sd_dp y) (pc, .iastore, nx, a1, a2, a3, a4, w, c, d, ts) = true) (hx : sd_X l sc y rm Q rec (pc, .iastore, nx, a1, a2, a3, a4, w, c, d, ts) ls st h cs ss) : sd_Wq l sc y rm Q pc ls st h cs ss := by
  simp only [sd_ck, Bool.and_eq_true, decide_eq_true_eq] at hq
  obtain ⟨hd, rfl⟩ := hq
  unfold sd_X at hx
  dsimp only at hx
  split at hx
  · next x j t k r =>
    obtain ⟨hb, n, hn, hx⟩ := sd_cd_f hx
    simp only [Bool.and_eq_true] at hb
    obtain ⟨⟨b1, b2⟩, b3⟩ := hb
    have b1 := sd_ble b1
    have b2 := sd_blt b2
    have b3 := sd_beq b3
    exact sw_astI (Or.inl ⟨rfl, b3⟩) hd b1 b2 hn.1 hn.2 (hrec _ _ _ _ _ _ hx)
  · exact hx.elim
theorem sx_bastore {pc nx a1 a2 a3 a4 w : Nat} {c : Int32} {d : Int64} {ts : List Nat} (hrec : ∀ pc ls st h cs ss, rec pc ls st h cs ss → sd_Wq l sc y rm Q pc ls st h cs ss) (hq : sd_ck (sd_nm y).cls (sd_nm y).name (sd_by y) (sd_ml y) (sd_dp y) (pc, .bastore, nx, a1, a2, a3, a4, w, c, d, ts) = true) (hx : sd_X l sc y rm Q rec (pc, .bastore, nx, a1, a2, a3, a4, w, c, d, ts) ls st h cs ss) : sd_Wq l sc y rm Q pc ls st h cs ss := by
  simp only [sd_ck, Bool.and_eq_true, decide_eq_true_eq] at hq
  obtain ⟨hd, rfl⟩ := hq
  unfold sd_X at hx
  dsimp only at hx
  split at hx
  · next x j t k r =>
    obtain ⟨hb, n, hn, hx⟩ := sd_cd_f hx
    simp only [Bool.and_eq_true] at hb
    obtain ⟨⟨b1, b2⟩, b3⟩ := hb
    have b1 := sd_ble b1
    have b2 := sd_blt b2
    have b3 := sd_beq b3
    exact sw_astI (Or.inr ⟨rfl, b3, hn.2.2⟩) hd b1 b2 hn.1 hn.2.1 (hrec _ _ _ _ _ _ hx)
  · exact hx.elim
theorem sx_lastore {pc nx a1 a2 a3 a4 w : Nat} {c : Int32} {d : Int64} {ts : List Nat} (hrec : ∀ pc ls st h cs ss, rec pc ls st h cs ss → sd_Wq l sc y rm Q pc ls st h cs ss) (hq : sd_ck (sd_nm y).cls (sd_nm y).name (sd_by y) (sd_ml y) (sd_dp y) (pc, .lastore, nx, a1, a2, a3, a4, w, c, d, ts) = true) (hx : sd_X l sc y rm Q rec (pc, .lastore, nx, a1, a2, a3, a4, w, c, d, ts) ls st h cs ss) : sd_Wq l sc y rm Q pc ls st h cs ss := by
  simp only [sd_ck, Bool.and_eq_true, decide_eq_true_eq] at hq
  obtain ⟨hd, rfl⟩ := hq
  unfold sd_X at hx
  dsimp only at hx
  split at hx
  · next x j t k r =>
    obtain ⟨hb, n, hn, hx⟩ := sd_cd_f hx
    simp only [Bool.and_eq_true] at hb
    obtain ⟨⟨b1, b2⟩, b3⟩ := hb
    have b1 := sd_ble b1
    have b2 := sd_blt b2
    have b3 := sd_beq b3
    exact sw_astL b3 hd b1 b2 hn.1 hn.2 (hrec _ _ _ _ _ _ hx)
  · exact hx.elim
theorem sx_aastore {pc nx a1 a2 a3 a4 w : Nat} {c : Int32} {d : Int64} {ts : List Nat} (hrec : ∀ pc ls st h cs ss, rec pc ls st h cs ss → sd_Wq l sc y rm Q pc ls st h cs ss) (hq : sd_ck (sd_nm y).cls (sd_nm y).name (sd_by y) (sd_ml y) (sd_dp y) (pc, .aastore, nx, a1, a2, a3, a4, w, c, d, ts) = true) (hx : sd_X l sc y rm Q rec (pc, .aastore, nx, a1, a2, a3, a4, w, c, d, ts) ls st h cs ss) : sd_Wq l sc y rm Q pc ls st h cs ss := by
  simp only [sd_ck, Bool.and_eq_true, decide_eq_true_eq] at hq
  obtain ⟨hd, rfl⟩ := hq
  unfold sd_X at hx
  dsimp only at hx
  split at hx
  · next u o j t k r =>
    obtain ⟨hb, n, hn, hx⟩ := sd_cd_f hx
    simp only [Bool.and_eq_true] at hb
    obtain ⟨⟨⟨b1, b2⟩, b3⟩, b4⟩ := hb
    exact sw_astR (sd_beq b3) (sd_blt b4) hd (sd_ble b1) (sd_blt b2) hn.1 hn.2 (hrec _ _ _ _ _ _ hx)
  · exact hx.elim
theorem sx_arraylength {pc nx a1 a2 a3 a4 w : Nat} {c : Int32} {d : Int64} {ts : List Nat} (hrec : ∀ pc ls st h cs ss, rec pc ls st h cs ss → sd_Wq l sc y rm Q pc ls st h cs ss) (hq : sd_ck (sd_nm y).cls (sd_nm y).name (sd_by y) (sd_ml y) (sd_dp y) (pc, .arraylength, nx, a1, a2, a3, a4, w, c, d, ts) = true) (hx : sd_X l sc y rm Q rec (pc, .arraylength, nx, a1, a2, a3, a4, w, c, d, ts) ls st h cs ss) : sd_Wq l sc y rm Q pc ls st h cs ss := by
  simp only [sd_ck, Bool.and_eq_true, decide_eq_true_eq] at hq
  obtain ⟨hd, rfl⟩ := hq
  unfold sd_X at hx
  dsimp only at hx
  split at hx
  · next t k r =>
    obtain ⟨hb, hx⟩ := sd_cd_f hx
    simp only [Bool.and_eq_true] at hb
    have e1 := sd_beq hb.1
    have e2 := sd_beq hb.2
    subst e1; subst e2
    split at hx
    · next L xs => exact sw_slen rfl hd (hrec _ _ _ _ _ _ hx)
    · exact hx.elim
  · exact hx.elim
theorem sx_new {pc nx a1 a2 a3 a4 w : Nat} {c : Int32} {d : Int64} {ts : List Nat} {k : Nat} (hrec : ∀ pc ls st h cs ss, rec pc ls st h cs ss → sd_Wq l sc y rm Q pc ls st h cs ss) (hq : sd_ck (sd_nm y).cls (sd_nm y).name (sd_by y) (sd_ml y) (sd_dp y) (pc, .new k, nx, a1, a2, a3, a4, w, c, d, ts) = true) (hx : sd_X l sc y rm Q rec (pc, .new k, nx, a1, a2, a3, a4, w, c, d, ts) ls st h cs ss) : sd_Wq l sc y rm Q pc ls st h cs ss := by
  simp only [sd_ck, Bool.and_eq_true, decide_eq_true_eq] at hq
  obtain ⟨⟨⟨hd, rfl⟩, h1, rfl⟩, h2, h3, h4⟩ := hq
  unfold sd_X at hx
  dsimp only at hx
  obtain ⟨hb, hx⟩ := sd_cd_f hx
  simp only [Bool.and_eq_true, Bool.not_eq_true'] at hb
  exact sw_new hd h1 (sd_wd_mem h2) (sd_wd_mem h3) (sd_wd_mem h4) hb.1.1 ⟨sd_ble hb.1.2, sd_ble hb.2⟩ (hrec _ _ _ _ _ _ hx)
theorem sx_newarray {pc nx a1 a2 a3 a4 w : Nat} {c : Int32} {d : Int64} {ts : List Nat} {k : ArrayType} (hrec : ∀ pc ls st h cs ss, rec pc ls st h cs ss → sd_Wq l sc y rm Q pc ls st h cs ss) (hq : sd_ck (sd_nm y).cls (sd_nm y).name (sd_by y) (sd_ml y) (sd_dp y) (pc, .newarray k, nx, a1, a2, a3, a4, w, c, d, ts) = true) (hx : sd_X l sc y rm Q rec (pc, .newarray k, nx, a1, a2, a3, a4, w, c, d, ts) ls st h cs ss) : sd_Wq l sc y rm Q pc ls st h cs ss := by
  simp only [sd_ck, Bool.and_eq_true, decide_eq_true_eq] at hq
  obtain ⟨⟨⟨hd, rfl⟩, h1, h2, rfl, h3, h4⟩, h5, h6⟩ := hq
  unfold sd_X at hx
  dsimp only at hx
  split at hx
  · obtain ⟨hb, hx⟩ := sd_cd_f hx
    simp only [Bool.and_eq_true, Bool.not_eq_true'] at hb
    exact sw_newa hd h1 h2 h4 h5 (sd_wd_mem h6) hb.1.1 ⟨sd_ble hb.1.2, sd_ble hb.2⟩ hx.1 (hrec _ _ _ _ _ _ hx.2)
  · exact hx.elim
theorem sx_anewarray {pc nx a1 a2 a3 a4 w : Nat} {c : Int32} {d : Int64} {ts : List Nat} {k : Nat} (hrec : ∀ pc ls st h cs ss, rec pc ls st h cs ss → sd_Wq l sc y rm Q pc ls st h cs ss) (hq : sd_ck (sd_nm y).cls (sd_nm y).name (sd_by y) (sd_ml y) (sd_dp y) (pc, .anewarray k, nx, a1, a2, a3, a4, w, c, d, ts) = true) (hx : sd_X l sc y rm Q rec (pc, .anewarray k, nx, a1, a2, a3, a4, w, c, d, ts) ls st h cs ss) : sd_Wq l sc y rm Q pc ls st h cs ss := by
  simp only [sd_ck, Bool.and_eq_true, decide_eq_true_eq] at hq
  obtain ⟨⟨⟨hd, rfl⟩, h1, h2, rfl, h3, h4⟩, h5, h6⟩ := hq
  unfold sd_X at hx
  dsimp only at hx
  split at hx
  · obtain ⟨hb, hx⟩ := sd_cd_f hx
    simp only [Bool.and_eq_true, Bool.not_eq_true'] at hb
    exact sw_anew hd h1 h2 (t := sd_fc a1 0 - 3) (by omega) (sd_wd_mem h5) (sd_wd_mem h6) hb.1.1 ⟨sd_ble hb.1.2, sd_ble hb.2⟩ hx.1 (hrec _ _ _ _ _ _ hx.2)
  · exact hx.elim
theorem sx_invokevirtual {pc nx a1 a2 a3 a4 w : Nat} {c : Int32} {d : Int64} {ts : List Nat} {k : Nat} (hrec : ∀ pc ls st h cs ss, rec pc ls st h cs ss → sd_Wq l sc y rm Q pc ls st h cs ss) (hq : sd_ck (sd_nm y).cls (sd_nm y).name (sd_by y) (sd_ml y) (sd_dp y) (pc, .invokevirtual k, nx, a1, a2, a3, a4, w, c, d, ts) = true) (hx : sd_X l sc y rm Q rec (pc, .invokevirtual k, nx, a1, a2, a3, a4, w, c, d, ts) ls st h cs ss) : sd_Wq l sc y rm Q pc ls st h cs ss := by
  simp only [sd_ck, Bool.and_eq_true, decide_eq_true_eq] at hq
  obtain ⟨⟨⟨hd, hn⟩, h1, h2, h3⟩, h4, h5, h6, h7, h8⟩ := hq
  unfold sd_X at hx
  dsimp only at hx
  split at hx
  · next t kk as r hp =>
    obtain ⟨hb, hx⟩ := sd_cd_f hx
    simp only [Bool.and_eq_true] at hb
    obtain ⟨a', e1, e2, e3⟩ := sd_pop_eq _ _ _ _ _ hp
    rw [List.append_nil] at e1
    subst e1
    rw [e2]
    exact sd_Wq.with fun hcs _ _ => sd_X1s hrec h2 ⟨k, Or.inl ⟨hd, sd_wd_mem h3, h7, h8, t, kk, as, rfl, sd_beq hb.1⟩⟩ hn (e3.trans h6) h4 (sd_ble hb.2) h5 hx hcs
  · exact hx.elim
theorem sx_invokestatic {pc nx a1 a2 a3 a4 w : Nat} {c : Int32} {d : Int64} {ts : List Nat} {k : Nat} (hrec : ∀ pc ls st h cs ss, rec pc ls st h cs ss → sd_Wq l sc y rm Q pc ls st h cs ss) (hq : sd_ck (sd_nm y).cls (sd_nm y).name (sd_by y) (sd_ml y) (sd_dp y) (pc, .invokestatic k, nx, a1, a2, a3, a4, w, c, d, ts) = true) (hx : sd_X l sc y rm Q rec (pc, .invokestatic k, nx, a1, a2, a3, a4, w, c, d, ts) ls st h cs ss) : sd_Wq l sc y rm Q pc ls st h cs ss := by
  simp only [sd_ck, Bool.and_eq_true, decide_eq_true_eq] at hq
  obtain ⟨⟨⟨hd, hn⟩, h1, h2, h3⟩, h4, h5, h6, h7⟩ := hq
  unfold sd_X at hx
  dsimp only at hx
  split at hx
  · next as r hp =>
    obtain ⟨hb, hx⟩ := sd_cd_f hx
    obtain ⟨a', e1, e2, e3⟩ := sd_pop_eq _ _ _ _ _ hp
    rw [List.append_nil] at e1
    subst e1
    rw [e2]
    exact sd_Wq.with fun hcs _ _ => sd_X1s hrec h2 ⟨k, Or.inr (Or.inl ⟨hd, sd_wd_mem h3, h7⟩)⟩ hn (e3.trans h6) h4 (sd_ble hb) h5 hx hcs
  · exact hx.elim
theorem sx_invokespecial {pc nx a1 a2 a3 a4 w : Nat} {c : Int32} {d : Int64} {ts : List Nat} {k : Nat} (hrec : ∀ pc ls st h cs ss, rec pc ls st h cs ss → sd_Wq l sc y rm Q pc ls st h cs ss) (hq : sd_ck (sd_nm y).cls (sd_nm y).name (sd_by y) (sd_ml y) (sd_dp y) (pc, .invokespecial k, nx, a1, a2, a3, a4, w, c, d, ts) = true) (hx : sd_X l sc y rm Q rec (pc, .invokespecial k, nx, a1, a2, a3, a4, w, c, d, ts) ls st h cs ss) : sd_Wq l sc y rm Q pc ls st h cs ss := by
  simp only [sd_ck, Bool.and_eq_true, decide_eq_true_eq] at hq
  obtain ⟨⟨hd, hn⟩, hq⟩ := hq
  unfold sd_X at hx
  dsimp only at hx
  rcases sd_cd_t hx with ⟨hb, hx⟩ | ⟨hb, hx⟩
  · have e := sd_beq hb
    split at hx
    · next t kk _ =>
      rcases hq with ⟨-, q2, q3⟩ | ⟨q1, -⟩
      · subst hn
        exact sw_objInit (q := (t, kk)) hd (sd_wd_mem q2) sd_ob_init2 sd_ob_init3 q3 rfl (hrec _ _ _ _ _ _ hx)
      · rcases q1 with q | q <;> omega
    · exact hx.elim
  · rcases hq with ⟨q1, -⟩ | ⟨q1, h2, h4, h5, h6, h7, h8, h9⟩
    · rw [q1] at hb; cases hb
    · split at hx
      · next t kk as r hp =>
        obtain ⟨hb, hx⟩ := sd_cd_f hx
        obtain ⟨a', e1, e2, e3⟩ := sd_pop_eq _ _ _ _ _ hp
        rw [List.append_nil] at e1
        subst e1
        rw [e2]
        exact sd_Wq.with fun hcs _ _ => sd_X1s hrec h2 ⟨k, Or.inr (Or.inr ⟨hd, q1.imp (fun q => sd_wd_mem q.2) (fun q => sd_wd_mem q.2), h7, h8, h9, t, kk, as, rfl⟩)⟩ hn (e3.trans h6) h4 (sd_ble hb) h5 hx hcs
      · exact hx.elim
theorem sx_ireturn {pc nx a1 a2 a3 a4 w : Nat} {c : Int32} {d : Int64} {ts : List Nat} (hrec : ∀ pc ls st h cs ss, rec pc ls st h cs ss → sd_Wq l sc y rm Q pc ls st h cs ss) (hq : sd_ck (sd_nm y).cls (sd_nm y).name (sd_by y) (sd_ml y) (sd_dp y) (pc, .ireturn, nx, a1, a2, a3, a4, w, c, d, ts) = true) (hx : sd_X l sc y rm Q rec (pc, .ireturn, nx, a1, a2, a3, a4, w, c, d, ts) ls st h cs ss) : sd_Wq l sc y rm Q pc ls st h cs ss := by
  simp only [sd_ck, Bool.and_eq_true, decide_eq_true_eq] at hq
  obtain ⟨hd, rfl⟩ := hq
  unfold sd_X at hx
  dsimp only at hx
  split at hx
  · next x =>
    split at hx
    · next e => exact sw_ret (v := some (.inl x)) ⟨hd, Or.inl e⟩ hx
    · next e => exact sw_ret (v := some (.inl x)) ⟨hd, Or.inr ⟨e, hx.1⟩⟩ hx.2
    · exact hx.elim
  · exact hx.elim
theorem sx_lreturn {pc nx a1 a2 a3 a4 w : Nat} {c : Int32} {d : Int64} {ts : List Nat} (hrec : ∀ pc ls st h cs ss, rec pc ls st h cs ss → sd_Wq l sc y rm Q pc ls st h cs ss) (hq : sd_ck (sd_nm y).cls (sd_nm y).name (sd_by y) (sd_ml y) (sd_dp y) (pc, .lreturn, nx, a1, a2, a3, a4, w, c, d, ts) = true) (hx : sd_X l sc y rm Q rec (pc, .lreturn, nx, a1, a2, a3, a4, w, c, d, ts) ls st h cs ss) : sd_Wq l sc y rm Q pc ls st h cs ss := by
  simp only [sd_ck, Bool.and_eq_true, decide_eq_true_eq] at hq
  obtain ⟨hd, rfl⟩ := hq
  unfold sd_X at hx
  dsimp only at hx
  split at hx
  · next x =>
    split at hx
    · next e => exact sw_ret (v := some (.inr (.inl x))) ⟨hd, e⟩ hx
    · exact hx.elim
  · exact hx.elim
theorem sx_areturn {pc nx a1 a2 a3 a4 w : Nat} {c : Int32} {d : Int64} {ts : List Nat} (hrec : ∀ pc ls st h cs ss, rec pc ls st h cs ss → sd_Wq l sc y rm Q pc ls st h cs ss) (hq : sd_ck (sd_nm y).cls (sd_nm y).name (sd_by y) (sd_ml y) (sd_dp y) (pc, .areturn, nx, a1, a2, a3, a4, w, c, d, ts) = true) (hx : sd_X l sc y rm Q rec (pc, .areturn, nx, a1, a2, a3, a4, w, c, d, ts) ls st h cs ss) : sd_Wq l sc y rm Q pc ls st h cs ss := by
  simp only [sd_ck, Bool.and_eq_true, decide_eq_true_eq] at hq
  obtain ⟨hd, rfl⟩ := hq
  unfold sd_X at hx
  dsimp only at hx
  split at hx
  · next x =>
    split at hx
    · next n e => exact sw_ret (v := some (.inr (.inr x))) ⟨hd, n, e⟩ hx
    · exact hx.elim
  · exact hx.elim
theorem sx_return_ {pc nx a1 a2 a3 a4 w : Nat} {c : Int32} {d : Int64} {ts : List Nat} (hrec : ∀ pc ls st h cs ss, rec pc ls st h cs ss → sd_Wq l sc y rm Q pc ls st h cs ss) (hq : sd_ck (sd_nm y).cls (sd_nm y).name (sd_by y) (sd_ml y) (sd_dp y) (pc, .return_, nx, a1, a2, a3, a4, w, c, d, ts) = true) (hx : sd_X l sc y rm Q rec (pc, .return_, nx, a1, a2, a3, a4, w, c, d, ts) ls st h cs ss) : sd_Wq l sc y rm Q pc ls st h cs ss := by
  simp only [sd_ck, Bool.and_eq_true, decide_eq_true_eq] at hq
  obtain ⟨hd, rfl⟩ := hq
  unfold sd_X at hx
  dsimp only at hx
  split at hx
  · split at hx
    · next e => exact sw_ret (v := none) ⟨hd, e⟩ hx
    · exact hx.elim
  · exact hx.elim
theorem sd_Xs {q : sd_I} (hrec : ∀ pc ls st h cs ss, rec pc ls st h cs ss → sd_Wq l sc y rm Q pc ls st h cs ss) (hq : sd_ck (sd_nm y).cls (sd_nm y).name (sd_by y) (sd_ml y) (sd_dp y) q = true) (hx : sd_X l sc y rm Q rec q ls st h cs ss) : sd_Wq l sc y rm Q q.1 ls st h cs ss := by
  obtain ⟨pc, i, nx, a1, a2, a3, a4, w, c, d, ts⟩ := q
  cases i
  case iconst => exact sx_iconst hrec hq hx
  case bipush => exact sx_bipush hrec hq hx
  case sipush => exact sx_sipush hrec hq hx
  case lconst => exact sx_lconst hrec hq hx
  case ldc => exact sx_ldc hrec hq hx
  case ldc_w => exact sx_ldc_w hrec hq hx
  case ldc2_w => exact sx_ldc2_w hrec hq hx
  case aconst_null => exact sx_aconst_null hrec hq hx
  case iload_n => exact sx_iload_n hrec hq hx
  case iload => exact sx_iload hrec hq hx
  case lload_n => exact sx_lload_n hrec hq hx
  case lload => exact sx_lload hrec hq hx
  case aload_n => exact sx_aload_n hrec hq hx
  case aload => exact sx_aload hrec hq hx
  case istore_n => exact sx_istore_n hrec hq hx
  case istore => exact sx_istore hrec hq hx
  case lstore_n => exact sx_lstore_n hrec hq hx
  case lstore => exact sx_lstore hrec hq hx
  case astore_n => exact sx_astore_n hrec hq hx
  case astore => exact sx_astore hrec hq hx
  case iinc => exact sx_iinc hrec hq hx
  case iadd => exact sx_iadd hrec hq hx
  case isub => exact sx_isub hrec hq hx
  case imul => exact sx_imul hrec hq hx
  case iand => exact sx_iand hrec hq hx
  case ior => exact sx_ior hrec hq hx
  case ixor => exact sx_ixor hrec hq hx
  case ishl => exact sx_ishl hrec hq hx
  case ishr => exact sx_ishr hrec hq hx
  case idiv => exact sx_idiv hrec hq hx
  case irem => exact sx_irem hrec hq hx
  case ineg => exact sx_ineg hrec hq hx
  case ladd => exact sx_ladd hrec hq hx
  case lsub => exact sx_lsub hrec hq hx
  case lmul => exact sx_lmul hrec hq hx
  case land => exact sx_land hrec hq hx
  case lor => exact sx_lor hrec hq hx
  case lxor => exact sx_lxor hrec hq hx
  case ldiv => exact sx_ldiv hrec hq hx
  case lrem => exact sx_lrem hrec hq hx
  case lshl => exact sx_lshl hrec hq hx
  case lshr => exact sx_lshr hrec hq hx
  case lushr => exact sx_lushr hrec hq hx
  case i2l => exact sx_i2l hrec hq hx
  case l2i => exact sx_l2i hrec hq hx
  case lcmp => exact sx_lcmp hrec hq hx
  case dup => exact sx_dup hrec hq hx
  case pop => exact sx_pop hrec hq hx
  case dup2 => exact sx_dup2 hrec hq hx
  case ifCond cn off =>
    cases cn
    case eq => exact sx_if_eq hrec hq hx
    case ne => exact sx_if_ne hrec hq hx
    case lt => exact sx_if_lt hrec hq hx
    case ge => exact sx_if_ge hrec hq hx
    case gt => exact sx_if_gt hrec hq hx
    case le => exact sx_if_le hrec hq hx
  case if_icmp cn off =>
    cases cn
    case eq => exact sx_icmp_eq hrec hq hx
    case ne => exact sx_icmp_ne hrec hq hx
    case lt => exact sx_icmp_lt hrec hq hx
    case ge => exact sx_icmp_ge hrec hq hx
    case gt => exact sx_icmp_gt hrec hq hx
    case le => exact sx_icmp_le hrec hq hx
  case goto => exact sx_goto hrec hq hx
  case ifnull => exact sx_ifnull hrec hq hx
  case ifnonnull => exact sx_ifnonnull hrec hq hx
  case tableswitch => exact sx_tableswitch hrec hq hx
  case getfield => exact sx_getfield hrec hq hx
  case putfield => exact sx_putfield hrec hq hx
  case iaload => exact sx_iaload hrec hq hx
  case laload => exact sx_laload hrec hq hx
  case baload => exact sx_baload hrec hq hx
  case aaload => exact sx_aaload hrec hq hx
  case iastore => exact sx_iastore hrec hq hx
  case bastore => exact sx_bastore hrec hq hx
  case lastore => exact sx_lastore hrec hq hx
  case aastore => exact sx_aastore hrec hq hx
  case arraylength => exact sx_arraylength hrec hq hx
  case new => exact sx_new hrec hq hx
  case newarray => exact sx_newarray hrec hq hx
  case anewarray => exact sx_anewarray hrec hq hx
  case invokevirtual => exact sx_invokevirtual hrec hq hx
  case invokestatic => exact sx_invokestatic hrec hq hx
  case invokespecial => exact sx_invokespecial hrec hq hx
  case ireturn => exact sx_ireturn hrec hq hx
  case lreturn => exact sx_lreturn hrec hq hx
  case areturn => exact sx_areturn hrec hq hx
  case return_ => exact sx_return_ hrec hq hx
  all_goals exact hx.elim
def sd_wp (l : Launch) (sc : Option (Nat × (Nat → Int32))) (y : Nat) (rm : Bool) (Q : Option sd_V → sd_H → Prop) (cd : List (List sd_I)) (cuts : List Nat) (n : Nat) : sd_Rc := Nat.rec (motive := fun _ => sd_Rc) (fun pc ls st h cs ss => sd_Wq l sc y rm Q pc ls st h cs ss)
  (fun _ ih pc ls st h cs ss => cond (cuts.any (Nat.beq pc)) (sd_Wq l sc y rm Q pc ls st h cs ss) (match sd_fe cd pc with
    | some q => sd_X l sc y rm Q ih q ls st h cs ss
    | none => False)) n
theorem sd_fd_mem : ∀ (t : List sd_I) (pc : Nat) (q : sd_I), sd_fd t pc = some q → q ∈ t ∧ q.1 = pc
  | [], _, _, h => by cases h
  | e :: t, pc, q, h => by
    unfold sd_fd at h
    cases hb : Nat.beq e.1 pc with
    | true => rw [hb] at h; cases h; exact ⟨List.mem_cons_self, sd_beq hb⟩
    | false => rw [hb] at h; obtain ⟨h1, h2⟩ := sd_fd_mem t pc q h; exact ⟨List.mem_cons_of_mem _ h1, h2⟩
theorem sd_fe_ck {pc : Nat} {q : sd_I} (hy : y < 146) (h : sd_fe (sd_cd y) pc = some q) : q.1 = pc ∧ sd_ck (sd_nm y).cls (sd_nm y).name (sd_by y) (sd_ml y) (sd_dp y) q = true := by
  unfold sd_fe at h
  split at h
  · next t ht =>
    obtain ⟨h1, h2⟩ := sd_fd_mem t pc q h
    refine ⟨h2, ?_⟩
    have hc := sd_caA y hy
    unfold sd_ca sd_cb at hc
    have hm := sd_nth_mem _ _ _ ht
    unfold sd_cd at hm
    unfold sd_nm sd_by sd_ml
    generalize sd_mr y = mr at hc hm ⊢
    obtain ⟨nm, bytes, ml, rt, cd⟩ := mr
    exact List.all_eq_true.mp (List.all_eq_true.mp hc t hm) q h1
  · cases h
theorem sd_Fs {cd : List (List sd_I)} {pc : Nat} (hy : y < 146) (hcd : sd_cd y = cd) (hrec : ∀ pc ls st h cs ss, rec pc ls st h cs ss → sd_Wq l sc y rm Q pc ls st h cs ss) (hx : match sd_fe cd pc with | some q => sd_X l sc y rm Q rec q ls st h cs ss | none => False) : sd_Wq l sc y rm Q pc ls st h cs ss := by
  subst hcd
  cases hf : sd_fe (sd_cd y) pc with
  | none => rw [hf] at hx; exact hx.elim
  | some q =>
    rw [hf] at hx
    obtain ⟨h1, h2⟩ := sd_fe_ck hy hf
    rw [← h1]
    exact sd_Xs hrec h2 hx
theorem sd_wps {cd : List (List sd_I)} {cuts : List Nat} (hy : y < 146) (hcd : sd_cd y = cd) : ∀ (n pc : Nat) (ls : List (Option sd_V)) (st : List sd_V) (h : sd_H) (cs ss : Nat), sd_wp l sc y rm Q cd cuts n pc ls st h cs ss → sd_Wq l sc y rm Q pc ls st h cs ss
  | 0, _, _, _, _, _, _, hw => hw
  | n + 1, pc, ls, st, h, cs, ss, hw => by
    have hw : cond (cuts.any (Nat.beq pc)) (sd_Wq l sc y rm Q pc ls st h cs ss) (match sd_fe cd pc with | some q => sd_X l sc y rm Q (sd_wp l sc y rm Q cd cuts n) q ls st h cs ss | none => False) := hw
    rcases sd_cd_t hw with ⟨-, hw⟩ | ⟨-, hw⟩
    · exact hw
    · exact sd_Fs hy hcd (sd_wps hy hcd n) hw
/-- from a place: one step whatever the cuts, then as the cuts say -/
theorem sd_go {cd : List (List sd_I)} (cuts : List Nat) (n : Nat) {pc : Nat} (hy : y < 146) (hcd : sd_cd y = cd) (hx : match sd_fe cd pc with | some q => sd_X l sc y rm Q (sd_wp l sc y rm Q cd cuts n) q ls st h cs ss | none => False) : sd_Wq l sc y rm Q pc ls st h cs ss := sd_Fs hy hcd (sd_wps hy hcd n) hx
/-- a contract, in the mode of references set once for all -/
theorem sd_e1 {cd : List (List sd_I)} (cuts : List Nat) (n : Nat) {as : List sd_V} {Q : Option sd_V → sd_H → Prop} (hy : y < 145) (hcd : sd_cd y = cd) (hlen : (sd_en as).length ≤ sd_ml y) (hx : match sd_fe cd 0 with | some q => sd_X l none y true Q (sd_wp l none y true Q cd cuts n) q (sd_in y as) [] h 0 0 | none => False) : sd_E1 l y as h Q := fun hok =>
  sd_intro (rm := true) (Q := Q) hy (fun _ => hok) (fun _ _ q1 q2 => ⟨q2 rfl, q1⟩) hlen (sd_go cuts n (by omega) hcd hx)
/-- a contract, in the other mode -/
theorem sd_e0 {cd : List (List sd_I)} (cuts : List Nat) (n : Nat) {as : List sd_V} {Q : Option sd_V → sd_H → Prop} (hy : y < 145) (hcd : sd_cd y = cd) (hlen : (sd_en as).length ≤ sd_ml y) (hx : match sd_fe cd 0 with | some q => sd_X l none y false Q (sd_wp l none y false Q cd cuts n) q (sd_in y as) [] h 0 0 | none => False) : sd_E l y as h Q :=
  sd_intro (rm := false) (Q := Q) hy (fun q => by cases q) (fun _ _ q1 _ => q1) hlen (sd_go cuts n (by omega) hcd hx)
end SX
