set_option maxRecDepth 100000 in
set_option maxHeartbeats 4000000 in
theorem whole_start {p : Program} {e : Env} {s : State} {m : MethodId} {below : List Frame} {meth : Method} {c : Code} (l : Launch) (hflags : l.flags = flags0) {b L : Nat} {xs : Nat → Int32} (hL : L ≤ 3072) (C0 : lw_At p s m meth c b L xs) : W p l e room_1 s m #[Value.ref b] below meth c s.heap [] 0 0 (lw_Z below #[Value.ref b] s) (entryFrame m ([Value.ref b] : List Value).toArray 4) := by
  obtain ⟨hx, hb, hr, hml, hown, hts, hX, hbl, hlocks, hgv⟩ := C0
  obtain ⟨D, ca, sk, sv, hK⟩ := st_all hts hgv
  obtain ⟨z, ez⟩ : ∃ z : gZ, z = (s.heap.size, D, ca, (fun j => s.heap.size + j), 0, sk, sv) := ⟨_, rfl⟩
  have had : ∀ j, gad z j = z.1 + j := fun j => by rw [ez]
  have hz : z.1 = s.heap.size := by rw [ez]
  have hKz : ∀ g, gK (zN z g) s := fun g => by rw [ez]; exact hK g
  have XX : ∀ g, gX p m c cL_law 4 s #[.ref b] RL (zN z g) := fun g => ⟨hx, hb, hml, hown, fun w hw => hts w (lw_gT hw), hKz g⟩
  clear ez hK
  have X := XX 178
  have hS : va_S (gA (zN z 178)) s.heap s.heap [] := va_S.rf
  have hl := lv_entry ([.ref b]) (n := 4) (Nat.le_of_ble_eq_true rfl)
  rw [lg_entry_eq]
  generalize (lg_sl ([.ref b]) ++ List.replicate (4 - (lg_sl ([.ref b])).length) Slot.unset).toArray = ls at hl ⊢
  have hl : lv_has ls 4 [(0, .ref b)] := hl
  have hV : gV (zN z 178) (va_up (cellOf (zN z 178) M0) 0 (.inr (6, [.null, .null, .null, .null, .null, .null, .null, .int 0]))) 0 s.heap := ⟨fun j hj => absurd hj (Nat.not_lt_zero j), by show s.heap.size = z.1 + 0; rw [hz]; rfl, fun j => had j⟩
  refine r_new (T := TX6) (N := 8) (ci := 6) (fs := [.null, .null, .null, .null, .null, .null, .null, .int 0]) X hV hS tyX6 tyX6_ok rfl layX6 cl_L_7 in_X6 ii_X6 (va_up_self _ _ _) (fun j hj => dv_6 j hj) (Nat.le_of_ble_eq_true rfl) (Nat.le_of_ble_eq_true rfl) dL_law_0 (fun H hV hS => ?_)
  refine lv_dup hx hb dL_law_3 rfl ?_
  refine r_cI (av := []) (rest := [.ref (gad (zN z 178) 0)]) X hV hS (ct_X6_init l (zN z 178) (k := 0) k_0 (va_up_self _ _ _)) mi_X6_init mj_X6_init rfl ml_L_9 rfl ⟨rfl, rfl, Nat.le_of_ble_eq_true rfl, Nat.le_of_ble_eq_true rfl⟩ ⟨Nat.le_of_ble_eq_true rfl, Nat.le_of_ble_eq_true rfl⟩ hl.1 (Nat.le_of_ble_eq_true rfl) rfl dL_law_4 (fun H locs hV hS => ?_)
  refine lv_astore_n (lv' := [(1, .ref (gad (zN z 178) 0)), (0, .ref b)]) hx hb dL_law_7 rfl hl (by decide) rfl (fun ls hl => ?_)
  have hV : gV (zN z 178) (va_up (cellOf (zN z 178) M0) 119 (.inr (7, [.null, .null, .null, .null, .null, .null, .null, .null, .int 0, .null, .int 0, .null, .null, .null, .null, .null, .null, .null, .null, .null, .null, .int 0, .int 0, .int 0, .int 0, .int 0, .null, .int 0, .int 0, .int 0, .long 0, .int 0, .int 0, .null, .int 0, .int 0, .int 0]))) 119 H := gV_ext hV (fun j hj => by
    rw [va_up_ne _ _ (by omega)]
    unfold mkB
    rw [if_neg (Nat.not_lt_zero j)])
  refine r_new (T := TX7) (N := 37) (ci := 7) (fs := [.null, .null, .null, .null, .null, .null, .null, .null, .int 0, .null, .int 0, .null, .null, .null, .null, .null, .null, .null, .null, .null, .null, .int 0, .int 0, .int 0, .int 0, .int 0, .null, .int 0, .int 0, .int 0, .long 0, .int 0, .int 0, .null, .int 0, .int 0, .int 0]) X hV hS tyX7 tyX7_ok rfl layX7 cl_L_10 in_X7 ii_X7 (va_up_self _ _ _) (fun j hj => dv_7 j hj) (Nat.le_of_ble_eq_true rfl) (Nat.le_of_ble_eq_true rfl) dL_law_8 (fun H hV hS => ?_)
  refine lv_dup hx hb dL_law_11 rfl ?_
  refine r_cI (av := []) (rest := [.ref (gad (zN z 178) 119)]) X hV hS (ct_X7_init l (zN z 178) (k := 119) k_119 (va_up_self _ _ _)) mi_X7_init mj_X7_init rfl ml_L_12 rfl ⟨rfl, rfl, Nat.le_of_ble_eq_true rfl, Nat.le_of_ble_eq_true rfl⟩ ⟨Nat.le_of_ble_eq_true rfl, Nat.le_of_ble_eq_true rfl⟩ hl.1 (Nat.le_of_ble_eq_true rfl) rfl dL_law_12 (fun H locs hV hS => ?_)
  refine lv_astore_n (lv' := [(2, .ref (gad (zN z 178) 119)), (1, .ref (gad (zN z 178) 0)), (0, .ref b)]) hx hb dL_law_15 rfl hl (by decide) rfl (fun ls hl => ?_)
  refine lv_iconst (v := 0) hx hb dL_law_16 (by decide) ?_
  refine lv_istore_n (lv' := [(3, .int 0), (2, .ref (gad (zN z 178) 119)), (1, .ref (gad (zN z 178) 0)), (0, .ref b)]) hx hb dL_law_17 rfl hl (by decide) rfl (fun ls hl => ?_)
  have hG : gW (zN z 178) M0 H := gV_W (gV_ext hV (fun j hj => by
    unfold mkB
    by_cases q : j < 119
    · rw [if_pos q, va_up_ne _ _ (by omega)]
    · rw [if_neg q]))
  exact law_loop hL hr hlocks had hz XX hX hbl (L + 1) 0 0 178 8916 M0 H locs ls (Nat.zero_le L) (by omega) (Or.inl ⟨rfl, rfl, rfl⟩) inv_0 hG hS (lv_sub hl [3, 2, 1, 0] rfl)
