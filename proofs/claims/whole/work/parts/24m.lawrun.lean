/-! ===== the law's run is the machine's ===== -/
abbrev lw_L : aLs := [some (.ref 900), some (.ref 0), some (.ref 43), some (.ref 74), some (.int 0), none, none]
set_option maxHeartbeats 4000000 in
theorem lw_W {p : Program} {l : Launch} {e : Env} {m : MethodId} {below : List Frame} {meth : Method} {c : Code} {G : aG} {b : Nat} (hZ : a_Z l G) (hN : va_Nc (a_en 1) (a_en 0) (g_s G)) (hn : g_n G ≤ 3072) (hx : p.tables.exec = Jvm.exec) (hb : c.code = code) (hr : meth.sig.returnType = ret) (hlocks : meth.locks = false) (hml : c.maxLocals = 7) (hown : (g_s G).vm.findClass RL = some m.cls) {σ : aMem} (hI : Inv σ) (hK : σ.2.2 = 10000) :
    a_W p l e room_1 (g_s G) m #[Value.ref b] below meth c (lw_Z below #[Value.ref b] (g_s G)) G shp 7 0 23 lw_L [] σ := by
  obtain ⟨t, ht, hg⟩ := lw_loop hn 512 0 σ (by omega) (by omega) hI
  obtain ⟨N, hN9⟩ := a_run_to ht
  have hM : a_M p (g_s G) m c G 7 RL cL_law := ⟨hx, hb, hml, hown, State.WarmedH.refl _, Nat.le_refl _, fun _ _ => rfl⟩
  have hca := caL_law hZ hN
  refine a_run_sound (sl := some (g_n G)) (own := RL) (cc := cL_law) (P := pL_law) (rf := (.inl (some (.int 1)), t)) hZ.2.1 shp_len (fun n h => (Option.some.inj h).symm) hM (a_fok_of [] rfl rfl) (a_cok_of trivial) (List.all_eq_true.mp ckL_law) (fun n f na ci rk hm => (a_all_mem hca (n, f, na, ci, rk) hm).1) ?_ ?_ ?_ ?_ ?_ N 23 lw_L [] σ hN9
  · intro pc L x τ hd hr2 he
    obtain ⟨e1, e2⟩ := Prod.mk.inj he
    cases Sum.inl.inj e1
    subst e2
    intro H locs ls hP hS hL hX hg9
    refine va_forget (fun q hq => ?_) ?_
    · rcases hS.2.2 q hq with ⟨k, hk, hz⟩ | hz
      · have := hZ.2.1.2.1 k hk
        omega
      · exact hz
    · refine W.widen (k := 601024) (n := 7293034) (by omega) (by omega) ?_
      exact lw_ret hx hb hr hlocks hd
  · intro pc L τ _ hr2
    exact absurd (show (1 : Nat) = 2 from hr2) (by decide)
  · intro pc L x τ _ hr2
    exact absurd (show (1 : Nat) = 3 from hr2) (by decide)
  · intro pc L st x τ hm
    exact (List.not_mem_nil hm).elim
  · intro virt n f na ci rk hm pc L as r τ hd hmc hv hwr hlen hwa h9
    refine (a_all_mem hca (n, f, na, ci, rk) hm).2 p e room_1 (g_s G) m _ below meth c _ 7 0 t.2.2 (fun o σ => ((Sum.inl (some (.int 1)), t) : aRes) = (o, σ)) virt hM (by decide) (by decide) ⟨?_, ?_⟩ pc (fun L x σ' hexc => ?_) L as r τ hd hv hwr hlen hwa h9
    · show t.2.2 - 0 ≤ 601024
      omega
    · show 6 * (t.2.2 - 0) ≤ 7293034
      omega
    · unfold a_exc at hexc
      split at hexc
      · rename_i h k hlk
        exact (List.not_mem_nil (a_lk_mem hlk)).elim
      · cases (Prod.mk.inj hexc).1
