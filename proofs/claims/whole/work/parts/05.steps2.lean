/-! THE STEPS: arithmetic, stack, branches -/
section Steps2
variable {ph : Bool} {Γ : GG} {y : Mth} {d mc ms kc ks : Nat} {Q : Option MV → Sto → Prop} {pc : Nat} {L : List (Option MV)} {S : List MV} {σ : Sto}
theorem M_iadd {a b : Int32} (hd : decode y.2.1 pc = .ok (.iadd, 1)) (k : M ph Γ y d mc ms kc ks Q (pc + 1) L (vi (a + b) :: S) σ) : M ph Γ y d mc ms kc ks Q pc L (vi b :: vi a :: S) σ := by
  intro p l e s m args below meth c H locs ad0 ad ls st hc hG hst he hR hS hB hl hk
  obtain ⟨st1, rfl, hk1⟩ := mk_i hk
  obtain ⟨st2, rfl, hk2⟩ := mk_i hk1
  exact lv_iadd hc.1 hc.2.1 hd (k p l e s m args below meth c H locs ad0 ad ls _ hc hG hst he hR hS hB hl (by simp [mv, hk2]))
theorem M_isub {a b : Int32} (hd : decode y.2.1 pc = .ok (.isub, 1)) (k : M ph Γ y d mc ms kc ks Q (pc + 1) L (vi (a - b) :: S) σ) : M ph Γ y d mc ms kc ks Q pc L (vi b :: vi a :: S) σ := by
  intro p l e s m args below meth c H locs ad0 ad ls st hc hG hst he hR hS hB hl hk
  obtain ⟨st1, rfl, hk1⟩ := mk_i hk
  obtain ⟨st2, rfl, hk2⟩ := mk_i hk1
  exact lv_isub hc.1 hc.2.1 hd (k p l e s m args below meth c H locs ad0 ad ls _ hc hG hst he hR hS hB hl (by simp [mv, hk2]))
theorem M_imul {a b : Int32} (hd : decode y.2.1 pc = .ok (.imul, 1)) (k : M ph Γ y d mc ms kc ks Q (pc + 1) L (vi (a * b) :: S) σ) : M ph Γ y d mc ms kc ks Q pc L (vi b :: vi a :: S) σ := by
  intro p l e s m args below meth c H locs ad0 ad ls st hc hG hst he hR hS hB hl hk
  obtain ⟨st1, rfl, hk1⟩ := mk_i hk
  obtain ⟨st2, rfl, hk2⟩ := mk_i hk1
  exact lv_imul hc.1 hc.2.1 hd (k p l e s m args below meth c H locs ad0 ad ls _ hc hG hst he hR hS hB hl (by simp [mv, hk2]))
theorem M_iand {a b : Int32} (hd : decode y.2.1 pc = .ok (.iand, 1)) (k : M ph Γ y d mc ms kc ks Q (pc + 1) L (vi (a &&& b) :: S) σ) : M ph Γ y d mc ms kc ks Q pc L (vi b :: vi a :: S) σ := by
  intro p l e s m args below meth c H locs ad0 ad ls st hc hG hst he hR hS hB hl hk
  obtain ⟨st1, rfl, hk1⟩ := mk_i hk
  obtain ⟨st2, rfl, hk2⟩ := mk_i hk1
  exact lv_iand hc.1 hc.2.1 hd (k p l e s m args below meth c H locs ad0 ad ls _ hc hG hst he hR hS hB hl (by simp [mv, hk2]))
theorem M_ior {a b : Int32} (hd : decode y.2.1 pc = .ok (.ior, 1)) (k : M ph Γ y d mc ms kc ks Q (pc + 1) L (vi (a ||| b) :: S) σ) : M ph Γ y d mc ms kc ks Q pc L (vi b :: vi a :: S) σ := by
  intro p l e s m args below meth c H locs ad0 ad ls st hc hG hst he hR hS hB hl hk
  obtain ⟨st1, rfl, hk1⟩ := mk_i hk
  obtain ⟨st2, rfl, hk2⟩ := mk_i hk1
  exact lv_ior hc.1 hc.2.1 hd (k p l e s m args below meth c H locs ad0 ad ls _ hc hG hst he hR hS hB hl (by simp [mv, hk2]))
theorem M_ishl {a b : Int32} (hd : decode y.2.1 pc = .ok (.ishl, 1)) (k : M ph Γ y d mc ms kc ks Q (pc + 1) L (vi (a <<< (b &&& 31)) :: S) σ) : M ph Γ y d mc ms kc ks Q pc L (vi b :: vi a :: S) σ := by
  intro p l e s m args below meth c H locs ad0 ad ls st hc hG hst he hR hS hB hl hk
  obtain ⟨st1, rfl, hk1⟩ := mk_i hk
  obtain ⟨st2, rfl, hk2⟩ := mk_i hk1
  exact lv_ishl hc.1 hc.2.1 hd (k p l e s m args below meth c H locs ad0 ad ls _ hc hG hst he hR hS hB hl (by simp [mv, hk2]))
theorem M_ishr {a b : Int32} (hd : decode y.2.1 pc = .ok (.ishr, 1)) (k : M ph Γ y d mc ms kc ks Q (pc + 1) L (vi (a >>> (b &&& 31)) :: S) σ) : M ph Γ y d mc ms kc ks Q pc L (vi b :: vi a :: S) σ := by
  intro p l e s m args below meth c H locs ad0 ad ls st hc hG hst he hR hS hB hl hk
  obtain ⟨st1, rfl, hk1⟩ := mk_i hk
  obtain ⟨st2, rfl, hk2⟩ := mk_i hk1
  exact lv_ishr hc.1 hc.2.1 hd (k p l e s m args below meth c H locs ad0 ad ls _ hc hG hst he hR hS hB hl (by simp [mv, hk2]))
theorem M_iushr {a b : Int32} (hd : decode y.2.1 pc = .ok (.iushr, 1)) (k : M ph Γ y d mc ms kc ks Q (pc + 1) L (vi (a.toUInt32 >>> (b.toUInt32 &&& Int32.toUInt32 31)).toInt32 :: S) σ) : M ph Γ y d mc ms kc ks Q pc L (vi b :: vi a :: S) σ := by
  intro p l e s m args below meth c H locs ad0 ad ls st hc hG hst he hR hS hB hl hk
  obtain ⟨st1, rfl, hk1⟩ := mk_i hk
  obtain ⟨st2, rfl, hk2⟩ := mk_i hk1
  exact lv_iushr hc.1 hc.2.1 hd rfl (k p l e s m args below meth c H locs ad0 ad ls _ hc hG hst he hR hS hB hl (by simp [mv, hk2]))
theorem M_idiv {a b : Int32} (hd : decode y.2.1 pc = .ok (.idiv, 1)) (hb0 : ¬ b = 0) (k : M ph Γ y d mc ms kc ks Q (pc + 1) L (vi (a / b) :: S) σ) : M ph Γ y d mc ms kc ks Q pc L (vi b :: vi a :: S) σ := by
  intro p l e s m args below meth c H locs ad0 ad ls st hc hG hst he hR hS hB hl hk
  obtain ⟨st1, rfl, hk1⟩ := mk_i hk
  obtain ⟨st2, rfl, hk2⟩ := mk_i hk1
  exact lv_idiv hc.1 hc.2.1 hd hb0 (k p l e s m args below meth c H locs ad0 ad ls _ hc hG hst he hR hS hB hl (by simp [mv, hk2]))
theorem M_irem {a b : Int32} (hd : decode y.2.1 pc = .ok (.irem, 1)) (hb0 : ¬ b = 0) (k : M ph Γ y d mc ms kc ks Q (pc + 1) L (vi (a - a / b * b) :: S) σ) : M ph Γ y d mc ms kc ks Q pc L (vi b :: vi a :: S) σ := by
  intro p l e s m args below meth c H locs ad0 ad ls st hc hG hst he hR hS hB hl hk
  obtain ⟨st1, rfl, hk1⟩ := mk_i hk
  obtain ⟨st2, rfl, hk2⟩ := mk_i hk1
  exact lv_irem hc.1 hc.2.1 hd hb0 (k p l e s m args below meth c H locs ad0 ad ls _ hc hG hst he hR hS hB hl (by simp [mv, hk2]))
theorem M_ineg {a : Int32} (hd : decode y.2.1 pc = .ok (.ineg, 1)) (k : M ph Γ y d mc ms kc ks Q (pc + 1) L (vi (-a) :: S) σ) : M ph Γ y d mc ms kc ks Q pc L (vi a :: S) σ := by
  intro p l e s m args below meth c H locs ad0 ad ls st hc hG hst he hR hS hB hl hk
  obtain ⟨st1, rfl, hk1⟩ := mk_i hk
  exact lv_ineg hc.1 hc.2.1 hd (k p l e s m args below meth c H locs ad0 ad ls _ hc hG hst he hR hS hB hl (by simp [mv, hk1]))
theorem M_i2l {a : Int32} (hd : decode y.2.1 pc = .ok (.i2l, 1)) (k : M ph Γ y d mc ms kc ks Q (pc + 1) L (vl a.toInt64 :: S) σ) : M ph Γ y d mc ms kc ks Q pc L (vi a :: S) σ := by
  intro p l e s m args below meth c H locs ad0 ad ls st hc hG hst he hR hS hB hl hk
  obtain ⟨st1, rfl, hk1⟩ := mk_i hk
  exact lv_i2l hc.1 hc.2.1 hd rfl (k p l e s m args below meth c H locs ad0 ad ls _ hc hG hst he hR hS hB hl (by simp [mv, hk1]))
theorem M_i2b {a : Int32} (hd : decode y.2.1 pc = .ok (.i2b, 1)) (k : M ph Γ y d mc ms kc ks Q (pc + 1) L (vi a.toInt8.toInt32 :: S) σ) : M ph Γ y d mc ms kc ks Q pc L (vi a :: S) σ := by
  intro p l e s m args below meth c H locs ad0 ad ls st hc hG hst he hR hS hB hl hk
  obtain ⟨st1, rfl, hk1⟩ := mk_i hk
  exact lv_i2b hc.1 hc.2.1 hd rfl (k p l e s m args below meth c H locs ad0 ad ls _ hc hG hst he hR hS hB hl (by simp [mv, hk1]))
theorem M_i2s {a : Int32} (hd : decode y.2.1 pc = .ok (.i2s, 1)) (k : M ph Γ y d mc ms kc ks Q (pc + 1) L (vi a.toInt16.toInt32 :: S) σ) : M ph Γ y d mc ms kc ks Q pc L (vi a :: S) σ := by
  intro p l e s m args below meth c H locs ad0 ad ls st hc hG hst he hR hS hB hl hk
  obtain ⟨st1, rfl, hk1⟩ := mk_i hk
  exact lv_i2s hc.1 hc.2.1 hd rfl (k p l e s m args below meth c H locs ad0 ad ls _ hc hG hst he hR hS hB hl (by simp [mv, hk1]))
theorem M_lcmp {a b : Int64} (hd : decode y.2.1 pc = .ok (.lcmp, 1)) (k : M ph Γ y d mc ms kc ks Q (pc + 1) L (vi (lg_cmp a b) :: S) σ) : M ph Γ y d mc ms kc ks Q pc L (vl b :: vl a :: S) σ := by
  intro p l e s m args below meth c H locs ad0 ad ls st hc hG hst he hR hS hB hl hk
  obtain ⟨st1, rfl, hk1⟩ := mk_l hk
  obtain ⟨st2, rfl, hk2⟩ := mk_l hk1
  exact W.lcmp hc.1 hc.2.1 hd (k p l e s m args below meth c H locs ad0 ad ls _ hc hG hst he hR hS hB hl (by simp [mv, hk2]))
theorem M_dup {v : MV} (hd : decode y.2.1 pc = .ok (.dup, 1)) (hv : mcat v = 1) (k : M ph Γ y d mc ms kc ks Q (pc + 1) L (v :: v :: S) σ) : M ph Γ y d mc ms kc ks Q pc L (v :: S) σ := by
  intro p l e s m args below meth c H locs ad0 ad ls st hc hG hst he hR hS hB hl hk
  obtain ⟨r, st1, rfl, h1, hk1⟩ := mk_top hk
  exact lv_dup hc.1 hc.2.1 hd ((mv_cat1 h1).trans hv) (k p l e s m args below meth c H locs ad0 ad ls _ hc hG hst he hR hS hB hl (by simp only [List.map_cons, h1, hk1]))
theorem M_dup_x1 {v w : MV} (hd : decode y.2.1 pc = .ok (.dup_x1, 1)) (hv : mcat v = 1) (hw : mcat w = 1) (k : M ph Γ y d mc ms kc ks Q (pc + 1) L (v :: w :: v :: S) σ) : M ph Γ y d mc ms kc ks Q pc L (v :: w :: S) σ := by
  intro p l e s m args below meth c H locs ad0 ad ls st hc hG hst he hR hS hB hl hk
  obtain ⟨r, st1, rfl, h1, hk1⟩ := mk_top hk
  obtain ⟨r2, st2, rfl, h2, hk2⟩ := mk_top hk1
  exact lv_dup_x1 hc.1 hc.2.1 hd ((mv_cat1 h1).trans hv) ((mv_cat1 h2).trans hw) (k p l e s m args below meth c H locs ad0 ad ls _ hc hG hst he hR hS hB hl (by simp only [List.map_cons, h1, h2, hk2]))
theorem M_pop {v : MV} (hd : decode y.2.1 pc = .ok (.pop, 1)) (hv : mcat v = 1) (k : M ph Γ y d mc ms kc ks Q (pc + 1) L S σ) : M ph Γ y d mc ms kc ks Q pc L (v :: S) σ := by
  intro p l e s m args below meth c H locs ad0 ad ls st hc hG hst he hR hS hB hl hk
  obtain ⟨r, st1, rfl, h1, hk1⟩ := mk_top hk
  exact lv_pop hc.1 hc.2.1 hd ((mv_cat1 h1).trans hv) (k p l e s m args below meth c H locs ad0 ad ls _ hc hG hst he hR hS hB hl hk1)
theorem M_goto {off : Int} {t : Nat} (hd : decode y.2.1 pc = .ok (.goto off, 3)) (ht : (pc : Int) + off = (t : Int)) (k : M ph Γ y d mc ms kc ks Q t L S σ) : M ph Γ y d mc ms kc ks Q pc L S σ := by
  intro p l e s m args below meth c H locs ad0 ad ls st hc hG hst he hR hS hB hl hk
  exact lv_goto hc.1 hc.2.1 hd ht (k p l e s m args below meth c H locs ad0 ad ls _ hc hG hst he hR hS hB hl hk)
theorem M_if_eq {a : Int32} {off : Int} {t : Nat} (hd : decode y.2.1 pc = .ok (.ifCond .eq off, 3)) (ht : (pc : Int) + off = (t : Int)) (kt : a = 0 → M ph Γ y d mc ms kc ks Q t L S σ) (kf : ¬ (a = 0) → M ph Γ y d mc ms kc ks Q (pc + 3) L S σ) : M ph Γ y d mc ms kc ks Q pc L (vi a :: S) σ := by
  intro p l e s m args below meth c H locs ad0 ad ls st hc hG hst he hR hS hB hl hk
  obtain ⟨st1, rfl, hk1⟩ := mk_i hk
  exact lv_if_eq hc.1 hc.2.1 hd ht (fun h => kt (by first | exact h | simpa using h) p l e s m args below meth c H locs ad0 ad ls _ hc hG hst he hR hS hB hl hk1) (fun h => kf (by first | exact h | simpa using h) p l e s m args below meth c H locs ad0 ad ls _ hc hG hst he hR hS hB hl hk1)
theorem M_icmp_eq {a b : Int32} {off : Int} {t : Nat} (hd : decode y.2.1 pc = .ok (.if_icmp .eq off, 3)) (ht : (pc : Int) + off = (t : Int)) (kt : a = b → M ph Γ y d mc ms kc ks Q t L S σ) (kf : ¬ (a = b) → M ph Γ y d mc ms kc ks Q (pc + 3) L S σ) : M ph Γ y d mc ms kc ks Q pc L (vi b :: vi a :: S) σ := by
  intro p l e s m args below meth c H locs ad0 ad ls st hc hG hst he hR hS hB hl hk
  obtain ⟨st1, rfl, hk1⟩ := mk_i hk
  obtain ⟨st2, rfl, hk2⟩ := mk_i hk1
  exact lv_icmp_eq hc.1 hc.2.1 hd ht (fun h => kt (by first | exact h | simpa using h) p l e s m args below meth c H locs ad0 ad ls _ hc hG hst he hR hS hB hl hk2) (fun h => kf (by first | exact h | simpa using h) p l e s m args below meth c H locs ad0 ad ls _ hc hG hst he hR hS hB hl hk2)
theorem M_if_ne {a : Int32} {off : Int} {t : Nat} (hd : decode y.2.1 pc = .ok (.ifCond .ne off, 3)) (ht : (pc : Int) + off = (t : Int)) (kt : ¬ a = 0 → M ph Γ y d mc ms kc ks Q t L S σ) (kf : ¬ (¬ a = 0) → M ph Γ y d mc ms kc ks Q (pc + 3) L S σ) : M ph Γ y d mc ms kc ks Q pc L (vi a :: S) σ := by
  intro p l e s m args below meth c H locs ad0 ad ls st hc hG hst he hR hS hB hl hk
  obtain ⟨st1, rfl, hk1⟩ := mk_i hk
  exact lv_if_ne hc.1 hc.2.1 hd ht (fun h => kt (by first | exact h | simpa using h) p l e s m args below meth c H locs ad0 ad ls _ hc hG hst he hR hS hB hl hk1) (fun h => kf (by first | exact h | simpa using h) p l e s m args below meth c H locs ad0 ad ls _ hc hG hst he hR hS hB hl hk1)
theorem M_icmp_ne {a b : Int32} {off : Int} {t : Nat} (hd : decode y.2.1 pc = .ok (.if_icmp .ne off, 3)) (ht : (pc : Int) + off = (t : Int)) (kt : ¬ a = b → M ph Γ y d mc ms kc ks Q t L S σ) (kf : ¬ (¬ a = b) → M ph Γ y d mc ms kc ks Q (pc + 3) L S σ) : M ph Γ y d mc ms kc ks Q pc L (vi b :: vi a :: S) σ := by
  intro p l e s m args below meth c H locs ad0 ad ls st hc hG hst he hR hS hB hl hk
  obtain ⟨st1, rfl, hk1⟩ := mk_i hk
  obtain ⟨st2, rfl, hk2⟩ := mk_i hk1
  exact lv_icmp_ne hc.1 hc.2.1 hd ht (fun h => kt (by first | exact h | simpa using h) p l e s m args below meth c H locs ad0 ad ls _ hc hG hst he hR hS hB hl hk2) (fun h => kf (by first | exact h | simpa using h) p l e s m args below meth c H locs ad0 ad ls _ hc hG hst he hR hS hB hl hk2)
theorem M_if_lt {a : Int32} {off : Int} {t : Nat} (hd : decode y.2.1 pc = .ok (.ifCond .lt off, 3)) (ht : (pc : Int) + off = (t : Int)) (kt : a < 0 → M ph Γ y d mc ms kc ks Q t L S σ) (kf : ¬ (a < 0) → M ph Γ y d mc ms kc ks Q (pc + 3) L S σ) : M ph Γ y d mc ms kc ks Q pc L (vi a :: S) σ := by
  intro p l e s m args below meth c H locs ad0 ad ls st hc hG hst he hR hS hB hl hk
  obtain ⟨st1, rfl, hk1⟩ := mk_i hk
  exact lv_if_lt hc.1 hc.2.1 hd ht (fun h => kt (by first | exact h | simpa using h) p l e s m args below meth c H locs ad0 ad ls _ hc hG hst he hR hS hB hl hk1) (fun h => kf (by first | exact h | simpa using h) p l e s m args below meth c H locs ad0 ad ls _ hc hG hst he hR hS hB hl hk1)
theorem M_icmp_lt {a b : Int32} {off : Int} {t : Nat} (hd : decode y.2.1 pc = .ok (.if_icmp .lt off, 3)) (ht : (pc : Int) + off = (t : Int)) (kt : a < b → M ph Γ y d mc ms kc ks Q t L S σ) (kf : ¬ (a < b) → M ph Γ y d mc ms kc ks Q (pc + 3) L S σ) : M ph Γ y d mc ms kc ks Q pc L (vi b :: vi a :: S) σ := by
  intro p l e s m args below meth c H locs ad0 ad ls st hc hG hst he hR hS hB hl hk
  obtain ⟨st1, rfl, hk1⟩ := mk_i hk
  obtain ⟨st2, rfl, hk2⟩ := mk_i hk1
  exact lv_icmp_lt hc.1 hc.2.1 hd ht (fun h => kt (by first | exact h | simpa using h) p l e s m args below meth c H locs ad0 ad ls _ hc hG hst he hR hS hB hl hk2) (fun h => kf (by first | exact h | simpa using h) p l e s m args below meth c H locs ad0 ad ls _ hc hG hst he hR hS hB hl hk2)
theorem M_if_ge {a : Int32} {off : Int} {t : Nat} (hd : decode y.2.1 pc = .ok (.ifCond .ge off, 3)) (ht : (pc : Int) + off = (t : Int)) (kt : 0 ≤ a → M ph Γ y d mc ms kc ks Q t L S σ) (kf : ¬ (0 ≤ a) → M ph Γ y d mc ms kc ks Q (pc + 3) L S σ) : M ph Γ y d mc ms kc ks Q pc L (vi a :: S) σ := by
  intro p l e s m args below meth c H locs ad0 ad ls st hc hG hst he hR hS hB hl hk
  obtain ⟨st1, rfl, hk1⟩ := mk_i hk
  exact lv_if_ge hc.1 hc.2.1 hd ht (fun h => kt (by first | exact h | simpa using h) p l e s m args below meth c H locs ad0 ad ls _ hc hG hst he hR hS hB hl hk1) (fun h => kf (by first | exact h | simpa using h) p l e s m args below meth c H locs ad0 ad ls _ hc hG hst he hR hS hB hl hk1)
theorem M_icmp_ge {a b : Int32} {off : Int} {t : Nat} (hd : decode y.2.1 pc = .ok (.if_icmp .ge off, 3)) (ht : (pc : Int) + off = (t : Int)) (kt : b ≤ a → M ph Γ y d mc ms kc ks Q t L S σ) (kf : ¬ (b ≤ a) → M ph Γ y d mc ms kc ks Q (pc + 3) L S σ) : M ph Γ y d mc ms kc ks Q pc L (vi b :: vi a :: S) σ := by
  intro p l e s m args below meth c H locs ad0 ad ls st hc hG hst he hR hS hB hl hk
  obtain ⟨st1, rfl, hk1⟩ := mk_i hk
  obtain ⟨st2, rfl, hk2⟩ := mk_i hk1
  exact lv_icmp_ge hc.1 hc.2.1 hd ht (fun h => kt (by first | exact h | simpa using h) p l e s m args below meth c H locs ad0 ad ls _ hc hG hst he hR hS hB hl hk2) (fun h => kf (by first | exact h | simpa using h) p l e s m args below meth c H locs ad0 ad ls _ hc hG hst he hR hS hB hl hk2)
theorem M_if_gt {a : Int32} {off : Int} {t : Nat} (hd : decode y.2.1 pc = .ok (.ifCond .gt off, 3)) (ht : (pc : Int) + off = (t : Int)) (kt : 0 < a → M ph Γ y d mc ms kc ks Q t L S σ) (kf : ¬ (0 < a) → M ph Γ y d mc ms kc ks Q (pc + 3) L S σ) : M ph Γ y d mc ms kc ks Q pc L (vi a :: S) σ := by
  intro p l e s m args below meth c H locs ad0 ad ls st hc hG hst he hR hS hB hl hk
  obtain ⟨st1, rfl, hk1⟩ := mk_i hk
  exact lv_if_gt hc.1 hc.2.1 hd ht (fun h => kt (by first | exact h | simpa using h) p l e s m args below meth c H locs ad0 ad ls _ hc hG hst he hR hS hB hl hk1) (fun h => kf (by first | exact h | simpa using h) p l e s m args below meth c H locs ad0 ad ls _ hc hG hst he hR hS hB hl hk1)
theorem M_icmp_gt {a b : Int32} {off : Int} {t : Nat} (hd : decode y.2.1 pc = .ok (.if_icmp .gt off, 3)) (ht : (pc : Int) + off = (t : Int)) (kt : b < a → M ph Γ y d mc ms kc ks Q t L S σ) (kf : ¬ (b < a) → M ph Γ y d mc ms kc ks Q (pc + 3) L S σ) : M ph Γ y d mc ms kc ks Q pc L (vi b :: vi a :: S) σ := by
  intro p l e s m args below meth c H locs ad0 ad ls st hc hG hst he hR hS hB hl hk
  obtain ⟨st1, rfl, hk1⟩ := mk_i hk
  obtain ⟨st2, rfl, hk2⟩ := mk_i hk1
  exact lv_icmp_gt hc.1 hc.2.1 hd ht (fun h => kt (by first | exact h | simpa using h) p l e s m args below meth c H locs ad0 ad ls _ hc hG hst he hR hS hB hl hk2) (fun h => kf (by first | exact h | simpa using h) p l e s m args below meth c H locs ad0 ad ls _ hc hG hst he hR hS hB hl hk2)
theorem M_if_le {a : Int32} {off : Int} {t : Nat} (hd : decode y.2.1 pc = .ok (.ifCond .le off, 3)) (ht : (pc : Int) + off = (t : Int)) (kt : a ≤ 0 → M ph Γ y d mc ms kc ks Q t L S σ) (kf : ¬ (a ≤ 0) → M ph Γ y d mc ms kc ks Q (pc + 3) L S σ) : M ph Γ y d mc ms kc ks Q pc L (vi a :: S) σ := by
  intro p l e s m args below meth c H locs ad0 ad ls st hc hG hst he hR hS hB hl hk
  obtain ⟨st1, rfl, hk1⟩ := mk_i hk
  exact lv_if_le hc.1 hc.2.1 hd ht (fun h => kt (by first | exact h | simpa using h) p l e s m args below meth c H locs ad0 ad ls _ hc hG hst he hR hS hB hl hk1) (fun h => kf (by first | exact h | simpa using h) p l e s m args below meth c H locs ad0 ad ls _ hc hG hst he hR hS hB hl hk1)
theorem M_icmp_le {a b : Int32} {off : Int} {t : Nat} (hd : decode y.2.1 pc = .ok (.if_icmp .le off, 3)) (ht : (pc : Int) + off = (t : Int)) (kt : a ≤ b → M ph Γ y d mc ms kc ks Q t L S σ) (kf : ¬ (a ≤ b) → M ph Γ y d mc ms kc ks Q (pc + 3) L S σ) : M ph Γ y d mc ms kc ks Q pc L (vi b :: vi a :: S) σ := by
  intro p l e s m args below meth c H locs ad0 ad ls st hc hG hst he hR hS hB hl hk
  obtain ⟨st1, rfl, hk1⟩ := mk_i hk
  obtain ⟨st2, rfl, hk2⟩ := mk_i hk1
  exact lv_icmp_le hc.1 hc.2.1 hd ht (fun h => kt (by first | exact h | simpa using h) p l e s m args below meth c H locs ad0 ad ls _ hc hG hst he hR hS hB hl hk2) (fun h => kf (by first | exact h | simpa using h) p l e s m args below meth c H locs ad0 ad ls _ hc hG hst he hR hS hB hl hk2)
theorem M_ifnull {x : Option MA} {off : Int} {t : Nat} (hd : decode y.2.1 pc = .ok (.ifnull off, 3)) (ht : (pc : Int) + off = (t : Int)) (kt : x = none → M ph Γ y d mc ms kc ks Q t L S σ) (kf : ¬ x = none → M ph Γ y d mc ms kc ks Q (pc + 3) L S σ) : M ph Γ y d mc ms kc ks Q pc L (vq x :: S) σ := by
  intro p l e s m args below meth c H locs ad0 ad ls st hc hG hst he hR hS hB hl hk
  obtain ⟨r, st1, rfl, h1, hk1⟩ := mk_top hk
  rcases mk_q h1 with ⟨hx, rfl⟩ | ⟨a, q, hx, -, rfl⟩
  · exact lv_ifnullN hc.1 hc.2.1 hd ht (kt hx p l e s m args below meth c H locs ad0 ad ls _ hc hG hst he hR hS hB hl hk1)
  · exact lv_ifnull hc.1 hc.2.1 hd (kf (by rw [hx]; simp) p l e s m args below meth c H locs ad0 ad ls _ hc hG hst he hR hS hB hl hk1)
theorem M_ifnonnull {x : Option MA} {off : Int} {t : Nat} (hd : decode y.2.1 pc = .ok (.ifnonnull off, 3)) (ht : (pc : Int) + off = (t : Int)) (kt : ¬ x = none → M ph Γ y d mc ms kc ks Q t L S σ) (kf : x = none → M ph Γ y d mc ms kc ks Q (pc + 3) L S σ) : M ph Γ y d mc ms kc ks Q pc L (vq x :: S) σ := by
  intro p l e s m args below meth c H locs ad0 ad ls st hc hG hst he hR hS hB hl hk
  obtain ⟨r, st1, rfl, h1, hk1⟩ := mk_top hk
  rcases mk_q h1 with ⟨hx, rfl⟩ | ⟨a, q, hx, -, rfl⟩
  · exact lv_ifnonnullN hc.1 hc.2.1 hd (kf hx p l e s m args below meth c H locs ad0 ad ls _ hc hG hst he hR hS hB hl hk1)
  · exact lv_ifnonnull hc.1 hc.2.1 hd ht (kt (by rw [hx]; simp) p l e s m args below meth c H locs ad0 ad ls _ hc hG hst he hR hS hB hl hk1)
theorem M_tableIn {dflt lo hi : Int} {offs : Array Int} {len : Nat} {x : Int32} {off : Int} {t : Nat} (hd : decode y.2.1 pc = .ok (.tableswitch dflt lo hi offs, len)) (h1 : ¬ x.toInt < lo) (h2 : ¬ hi < x.toInt) (ho : offs[(x.toInt - lo).toNat]? = some off) (ht : (pc : Int) + off = (t : Int)) (k : M ph Γ y d mc ms kc ks Q t L S σ) : M ph Γ y d mc ms kc ks Q pc L (vi x :: S) σ := by
  intro p l e s m args below meth c H locs ad0 ad ls st hc hG hst he hR hS hB hl hk
  obtain ⟨st1, rfl, hk1⟩ := mk_i hk
  exact lv_tableIn hc.1 hc.2.1 hd h1 h2 ho ht (k p l e s m args below meth c H locs ad0 ad ls _ hc hG hst he hR hS hB hl hk1)
theorem M_tableOut {dflt lo hi : Int} {offs : Array Int} {len : Nat} {x : Int32} {t : Nat} (hd : decode y.2.1 pc = .ok (.tableswitch dflt lo hi offs, len)) (h : x.toInt < lo ∨ hi < x.toInt) (ht : (pc : Int) + dflt = (t : Int)) (k : M ph Γ y d mc ms kc ks Q t L S σ) : M ph Γ y d mc ms kc ks Q pc L (vi x :: S) σ := by
  intro p l e s m args below meth c H locs ad0 ad ls st hc hG hst he hR hS hB hl hk
  obtain ⟨st1, rfl, hk1⟩ := mk_i hk
  exact lv_tableOut hc.1 hc.2.1 hd h ht (k p l e s m args below meth c H locs ad0 ad ls _ hc hG hst he hR hS hB hl hk1)
theorem M_lookup {dflt : Int} {ps : Array (Int × Int)} {len : Nat} {x : Int32} {off : Int} {t : Nat} (hd : decode y.2.1 pc = .ok (.lookupswitch dflt ps, len)) (hp : (ps.toList.zip (ps.toList.drop 1)).all (fun (a, next) => a.1 < next.1) = true) (ho : Op.lookupswitch.offset ps.toList dflt x.toInt = off) (ht : (pc : Int) + off = (t : Int)) (k : M ph Γ y d mc ms kc ks Q t L S σ) : M ph Γ y d mc ms kc ks Q pc L (vi x :: S) σ := by
  intro p l e s m args below meth c H locs ad0 ad ls st hc hG hst he hR hS hB hl hk
  obtain ⟨st1, rfl, hk1⟩ := mk_i hk
  exact lv_lookup hc.1 hc.2.1 hd hp ho ht (k p l e s m args below meth c H locs ad0 ad ls _ hc hG hst he hR hS hB hl hk1)
/-! returns -/
theorem mRet {v : MV} {s t : State} {H : Heap} {locs : List Loc} {ad0 ad : MA → Option Nat} {r : Value} {args : Array Value} (hq : Q (some v) σ) (he : ∀ a q, ad0 a = some q → ad a = some q) (hR : Rep ph Γ s ad σ H) (hS : va_S (mA Γ) s.heap H locs) (hB : Γ.1 ≤ s.heap.size) (hv : mv ad v = some r) (ht : t.heap = H) (hW : s.WarmedH t.vm) : mQ ph Γ Q ad0 args s (.returned (some r)) t :=
  ⟨some v, some r, σ, ad, rfl, by simp [hv], hq, he, by rw [ht]; exact hR.warm hW.alike, by rw [ht]; exact hS.1, fun q hq' => by rw [ht]; exact hS.2.1 q (Nat.lt_of_lt_of_le hq' hB) (Nat.not_le.mpr hq')⟩
theorem M_ireturn {x : Int32} (hret : y.2.2.2 = some .int) (hd : decode y.2.1 pc = .ok (.ireturn, 1)) (h1 : kc ≤ mc) (h2 : ks ≤ ms) (hq : Q (some (vi x)) σ) : M ph Γ y d mc ms kc ks Q pc L [vi x] σ := by
  intro p l e s m args below meth c H locs ad0 ad ls st hc hG hst he hR hS hB hl hk
  obtain ⟨st1, rfl, hk1⟩ := mk_i hk
  cases st1 with
  | cons a b => simp at hk1
  | nil =>
    refine W.widen h1 h2 ?_
    exact W.iret hc.1 hc.2.1 (hc.2.2.1.trans hret) (fun t ht hW => mRet hq he hR hS hB rfl ht hW) hS.2.2 hd (hlocks := hc.2.2.2.2.2.1)
theorem M_zreturn {x : Int32} (hret : y.2.2.2 = some .boolean) (hd : decode y.2.1 pc = .ok (.ireturn, 1)) (hx : x = 0 ∨ x = 1) (h1 : kc ≤ mc) (h2 : ks ≤ ms) (hq : Q (some (vi x)) σ) : M ph Γ y d mc ms kc ks Q pc L [vi x] σ := by
  intro p l e s m args below meth c H locs ad0 ad ls st hc hG hst he hR hS hB hl hk
  obtain ⟨st1, rfl, hk1⟩ := mk_i hk
  cases st1 with
  | cons a b => simp at hk1
  | nil =>
    refine W.widen h1 h2 ?_
    exact W.zret hc.1 hc.2.1 (hc.2.2.1.trans hret) (by rcases hx with rfl | rfl <;> rfl) (fun t ht hW => mRet hq he hR hS hB rfl ht hW) hS.2.2 hd (hlocks := hc.2.2.2.2.2.1)
theorem M_lreturn {x : Int64} (hret : y.2.2.2 = some .long) (hd : decode y.2.1 pc = .ok (.lreturn, 1)) (h1 : kc ≤ mc) (h2 : ks ≤ ms) (hq : Q (some (vl x)) σ) : M ph Γ y d mc ms kc ks Q pc L [vl x] σ := by
  intro p l e s m args below meth c H locs ad0 ad ls st hc hG hst he hR hS hB hl hk
  obtain ⟨st1, rfl, hk1⟩ := mk_l hk
  cases st1 with
  | cons a b => simp at hk1
  | nil =>
    refine W.widen h1 h2 ?_
    exact W.lret hc.1 hc.2.1 (hc.2.2.1.trans hret) (fun t ht hW => mRet hq he hR hS hB rfl ht hW) hS.2.2 hd (hlocks := hc.2.2.2.2.2.1)
theorem M_areturn {x : Option MA} {C : String} (hret : y.2.2.2 = some (.object C)) (hd : decode y.2.1 pc = .ok (.areturn, 1)) (h1 : kc ≤ mc) (h2 : ks ≤ ms) (hq : Q (some (vq x)) σ) : M ph Γ y d mc ms kc ks Q pc L [vq x] σ := by
  intro p l e s m args below meth c H locs ad0 ad ls st hc hG hst he hR hS hB hl hk
  obtain ⟨r, st1, rfl, hr, hk1⟩ := mk_top hk
  cases st1 with
  | cons a b => simp at hk1
  | nil =>
    refine W.widen h1 h2 ?_
    refine W.aret hc.1 hc.2.1 (hc.2.2.1.trans hret) (Or.inl ⟨C, rfl⟩) ?_ (fun t ht hW => mRet hq he hR hS hB hr ht hW) hS.2.2 hd (hlocks := hc.2.2.2.2.2.1)
    rcases mk_q hr with ⟨-, rfl⟩ | ⟨a, q, -, -, rfl⟩
    · exact Or.inl rfl
    · exact Or.inr ⟨q, rfl⟩
theorem M_return (hret : y.2.2.2 = none) (hd : decode y.2.1 pc = .ok (.return_, 1)) (h1 : kc ≤ mc) (h2 : ks ≤ ms) (hq : Q none σ) : M ph Γ y d mc ms kc ks Q pc L [] σ := by
  intro p l e s m args below meth c H locs ad0 ad ls st hc hG hst he hR hS hB hl hk
  cases st with
  | cons a b => simp at hk
  | nil =>
    refine W.widen h1 h2 ?_
    exact W.vret hc.1 hc.2.1 (hc.2.2.1.trans hret) (fun t ht hW => ⟨none, none, σ, ad, rfl, rfl, hq, he, by rw [ht]; exact hR.warm hW.alike, by rw [ht]; exact hS.1, fun q hq' => by rw [ht]; exact hS.2.1 q (Nat.lt_of_lt_of_le hq' hB) (Nat.not_le.mpr hq')⟩) hS.2.2 hd (hlocks := hc.2.2.2.2.2.1)
end Steps2
