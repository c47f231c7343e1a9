/-! reading behind a writing -/
theorem eg_cl_sfi (σ : en_S) (f a : Nat) (v : Int32) : en_cl (en_sfi σ f a v) = en_cl σ := rfl
theorem eg_fi_sfi (σ : en_S) (f a : Nat) (v : Int32) (g b : Nat) : en_fi (en_sfi σ f a v) g b = if g = f ∧ b = a then v else en_fi σ g b := rfl
theorem eg_fr_sfi (σ : en_S) (f a : Nat) (v : Int32) : en_fr (en_sfi σ f a v) = en_fr σ := rfl
theorem eg_fd_sfi (σ : en_S) (f a : Nat) (v : Int32) : en_fd (en_sfi σ f a v) = en_fd σ := rfl
theorem eg_al_sfi (σ : en_S) (f a : Nat) (v : Int32) : en_al (en_sfi σ f a v) = en_al σ := rfl
theorem eg_ai_sfi (σ : en_S) (f a : Nat) (v : Int32) : en_ai (en_sfi σ f a v) = en_ai σ := rfl
theorem eg_ar_sfi (σ : en_S) (f a : Nat) (v : Int32) : en_ar (en_sfi σ f a v) = en_ar σ := rfl
theorem eg_ad_sfi (σ : en_S) (f a : Nat) (v : Int32) : en_ad (en_sfi σ f a v) = en_ad σ := rfl
theorem eg_aj_sfi (σ : en_S) (f a : Nat) (v : Int32) : en_aj (en_sfi σ f a v) = en_aj σ := rfl
theorem eg_nx_sfi (σ : en_S) (f a : Nat) (v : Int32) : en_nx (en_sfi σ f a v) = en_nx σ := rfl
theorem eg_ns_sfi (σ : en_S) (f a : Nat) (v : Int32) : en_ns (en_sfi σ f a v) = en_ns σ := rfl
theorem eg_cl_sfr (σ : en_S) (f a : Nat) (v : Option Nat) : en_cl (en_sfr σ f a v) = en_cl σ := rfl
theorem eg_fi_sfr (σ : en_S) (f a : Nat) (v : Option Nat) : en_fi (en_sfr σ f a v) = en_fi σ := rfl
theorem eg_fr_sfr (σ : en_S) (f a : Nat) (v : Option Nat) (g b : Nat) : en_fr (en_sfr σ f a v) g b = if g = f ∧ b = a then v else en_fr σ g b := rfl
theorem eg_fd_sfr (σ : en_S) (f a : Nat) (v : Option Nat) : en_fd (en_sfr σ f a v) = en_fd σ := rfl
theorem eg_al_sfr (σ : en_S) (f a : Nat) (v : Option Nat) : en_al (en_sfr σ f a v) = en_al σ := rfl
theorem eg_ai_sfr (σ : en_S) (f a : Nat) (v : Option Nat) : en_ai (en_sfr σ f a v) = en_ai σ := rfl
theorem eg_ar_sfr (σ : en_S) (f a : Nat) (v : Option Nat) : en_ar (en_sfr σ f a v) = en_ar σ := rfl
theorem eg_ad_sfr (σ : en_S) (f a : Nat) (v : Option Nat) : en_ad (en_sfr σ f a v) = en_ad σ := rfl
theorem eg_aj_sfr (σ : en_S) (f a : Nat) (v : Option Nat) : en_aj (en_sfr σ f a v) = en_aj σ := rfl
theorem eg_nx_sfr (σ : en_S) (f a : Nat) (v : Option Nat) : en_nx (en_sfr σ f a v) = en_nx σ := rfl
theorem eg_ns_sfr (σ : en_S) (f a : Nat) (v : Option Nat) : en_ns (en_sfr σ f a v) = en_ns σ := rfl
theorem eg_cl_sfd (σ : en_S) (f a : Nat) (v : UInt64) : en_cl (en_sfd σ f a v) = en_cl σ := rfl
theorem eg_fi_sfd (σ : en_S) (f a : Nat) (v : UInt64) : en_fi (en_sfd σ f a v) = en_fi σ := rfl
theorem eg_fr_sfd (σ : en_S) (f a : Nat) (v : UInt64) : en_fr (en_sfd σ f a v) = en_fr σ := rfl
theorem eg_fd_sfd (σ : en_S) (f a : Nat) (v : UInt64) (g b : Nat) : en_fd (en_sfd σ f a v) g b = if g = f ∧ b = a then v else en_fd σ g b := rfl
theorem eg_al_sfd (σ : en_S) (f a : Nat) (v : UInt64) : en_al (en_sfd σ f a v) = en_al σ := rfl
theorem eg_ai_sfd (σ : en_S) (f a : Nat) (v : UInt64) : en_ai (en_sfd σ f a v) = en_ai σ := rfl
theorem eg_ar_sfd (σ : en_S) (f a : Nat) (v : UInt64) : en_ar (en_sfd σ f a v) = en_ar σ := rfl
theorem eg_ad_sfd (σ : en_S) (f a : Nat) (v : UInt64) : en_ad (en_sfd σ f a v) = en_ad σ := rfl
theorem eg_aj_sfd (σ : en_S) (f a : Nat) (v : UInt64) : en_aj (en_sfd σ f a v) = en_aj σ := rfl
theorem eg_nx_sfd (σ : en_S) (f a : Nat) (v : UInt64) : en_nx (en_sfd σ f a v) = en_nx σ := rfl
theorem eg_ns_sfd (σ : en_S) (f a : Nat) (v : UInt64) : en_ns (en_sfd σ f a v) = en_ns σ := rfl
theorem eg_cl_sai (σ : en_S) (f a : Nat) (v : Int32) : en_cl (en_sai σ f a v) = en_cl σ := rfl
theorem eg_fi_sai (σ : en_S) (f a : Nat) (v : Int32) : en_fi (en_sai σ f a v) = en_fi σ := rfl
theorem eg_fr_sai (σ : en_S) (f a : Nat) (v : Int32) : en_fr (en_sai σ f a v) = en_fr σ := rfl
theorem eg_fd_sai (σ : en_S) (f a : Nat) (v : Int32) : en_fd (en_sai σ f a v) = en_fd σ := rfl
theorem eg_al_sai (σ : en_S) (f a : Nat) (v : Int32) : en_al (en_sai σ f a v) = en_al σ := rfl
theorem eg_ai_sai (σ : en_S) (f a : Nat) (v : Int32) (g b : Nat) : en_ai (en_sai σ f a v) g b = if g = f ∧ b = a then v else en_ai σ g b := rfl
theorem eg_ar_sai (σ : en_S) (f a : Nat) (v : Int32) : en_ar (en_sai σ f a v) = en_ar σ := rfl
theorem eg_ad_sai (σ : en_S) (f a : Nat) (v : Int32) : en_ad (en_sai σ f a v) = en_ad σ := rfl
theorem eg_aj_sai (σ : en_S) (f a : Nat) (v : Int32) : en_aj (en_sai σ f a v) = en_aj σ := rfl
theorem eg_nx_sai (σ : en_S) (f a : Nat) (v : Int32) : en_nx (en_sai σ f a v) = en_nx σ := rfl
theorem eg_ns_sai (σ : en_S) (f a : Nat) (v : Int32) : en_ns (en_sai σ f a v) = en_ns σ := rfl
theorem eg_cl_sar (σ : en_S) (f a : Nat) (v : Option Nat) : en_cl (en_sar σ f a v) = en_cl σ := rfl
theorem eg_fi_sar (σ : en_S) (f a : Nat) (v : Option Nat) : en_fi (en_sar σ f a v) = en_fi σ := rfl
theorem eg_fr_sar (σ : en_S) (f a : Nat) (v : Option Nat) : en_fr (en_sar σ f a v) = en_fr σ := rfl
theorem eg_fd_sar (σ : en_S) (f a : Nat) (v : Option Nat) : en_fd (en_sar σ f a v) = en_fd σ := rfl
theorem eg_al_sar (σ : en_S) (f a : Nat) (v : Option Nat) : en_al (en_sar σ f a v) = en_al σ := rfl
theorem eg_ai_sar (σ : en_S) (f a : Nat) (v : Option Nat) : en_ai (en_sar σ f a v) = en_ai σ := rfl
theorem eg_ar_sar (σ : en_S) (f a : Nat) (v : Option Nat) (g b : Nat) : en_ar (en_sar σ f a v) g b = if g = f ∧ b = a then v else en_ar σ g b := rfl
theorem eg_ad_sar (σ : en_S) (f a : Nat) (v : Option Nat) : en_ad (en_sar σ f a v) = en_ad σ := rfl
theorem eg_aj_sar (σ : en_S) (f a : Nat) (v : Option Nat) : en_aj (en_sar σ f a v) = en_aj σ := rfl
theorem eg_nx_sar (σ : en_S) (f a : Nat) (v : Option Nat) : en_nx (en_sar σ f a v) = en_nx σ := rfl
theorem eg_ns_sar (σ : en_S) (f a : Nat) (v : Option Nat) : en_ns (en_sar σ f a v) = en_ns σ := rfl
theorem eg_cl_sad (σ : en_S) (f a : Nat) (v : UInt64) : en_cl (en_sad σ f a v) = en_cl σ := rfl
theorem eg_fi_sad (σ : en_S) (f a : Nat) (v : UInt64) : en_fi (en_sad σ f a v) = en_fi σ := rfl
theorem eg_fr_sad (σ : en_S) (f a : Nat) (v : UInt64) : en_fr (en_sad σ f a v) = en_fr σ := rfl
theorem eg_fd_sad (σ : en_S) (f a : Nat) (v : UInt64) : en_fd (en_sad σ f a v) = en_fd σ := rfl
theorem eg_al_sad (σ : en_S) (f a : Nat) (v : UInt64) : en_al (en_sad σ f a v) = en_al σ := rfl
theorem eg_ai_sad (σ : en_S) (f a : Nat) (v : UInt64) : en_ai (en_sad σ f a v) = en_ai σ := rfl
theorem eg_ar_sad (σ : en_S) (f a : Nat) (v : UInt64) : en_ar (en_sad σ f a v) = en_ar σ := rfl
theorem eg_ad_sad (σ : en_S) (f a : Nat) (v : UInt64) (g b : Nat) : en_ad (en_sad σ f a v) g b = if g = f ∧ b = a then v else en_ad σ g b := rfl
theorem eg_aj_sad (σ : en_S) (f a : Nat) (v : UInt64) : en_aj (en_sad σ f a v) = en_aj σ := rfl
theorem eg_nx_sad (σ : en_S) (f a : Nat) (v : UInt64) : en_nx (en_sad σ f a v) = en_nx σ := rfl
theorem eg_ns_sad (σ : en_S) (f a : Nat) (v : UInt64) : en_ns (en_sad σ f a v) = en_ns σ := rfl
theorem eg_cl_saj (σ : en_S) (f a : Nat) (v : Int64) : en_cl (en_saj σ f a v) = en_cl σ := rfl
theorem eg_fi_saj (σ : en_S) (f a : Nat) (v : Int64) : en_fi (en_saj σ f a v) = en_fi σ := rfl
theorem eg_fr_saj (σ : en_S) (f a : Nat) (v : Int64) : en_fr (en_saj σ f a v) = en_fr σ := rfl
theorem eg_fd_saj (σ : en_S) (f a : Nat) (v : Int64) : en_fd (en_saj σ f a v) = en_fd σ := rfl
theorem eg_al_saj (σ : en_S) (f a : Nat) (v : Int64) : en_al (en_saj σ f a v) = en_al σ := rfl
theorem eg_ai_saj (σ : en_S) (f a : Nat) (v : Int64) : en_ai (en_saj σ f a v) = en_ai σ := rfl
theorem eg_ar_saj (σ : en_S) (f a : Nat) (v : Int64) : en_ar (en_saj σ f a v) = en_ar σ := rfl
theorem eg_ad_saj (σ : en_S) (f a : Nat) (v : Int64) : en_ad (en_saj σ f a v) = en_ad σ := rfl
theorem eg_aj_saj (σ : en_S) (f a : Nat) (v : Int64) (g b : Nat) : en_aj (en_saj σ f a v) g b = if g = f ∧ b = a then v else en_aj σ g b := rfl
theorem eg_nx_saj (σ : en_S) (f a : Nat) (v : Int64) : en_nx (en_saj σ f a v) = en_nx σ := rfl
theorem eg_ns_saj (σ : en_S) (f a : Nat) (v : Int64) : en_ns (en_saj σ f a v) = en_ns σ := rfl
theorem eg_cl_new (σ : en_S) (c k : Nat) (b : Nat) : en_cl (en_new σ c k) b = if b = en_nx σ then some c else en_cl σ b := rfl
theorem eg_fi_new (σ : en_S) (c k : Nat) (g b : Nat) : en_fi (en_new σ c k) g b = if b = en_nx σ then 0 else en_fi σ g b := rfl
theorem eg_fr_new (σ : en_S) (c k : Nat) (g b : Nat) : en_fr (en_new σ c k) g b = if b = en_nx σ then none else en_fr σ g b := rfl
theorem eg_fd_new (σ : en_S) (c k : Nat) (g b : Nat) : en_fd (en_new σ c k) g b = if b = en_nx σ then 0 else en_fd σ g b := rfl
theorem eg_al_new (σ : en_S) (c k : Nat) : en_al (en_new σ c k) = en_al σ := rfl
theorem eg_ai_new (σ : en_S) (c k : Nat) : en_ai (en_new σ c k) = en_ai σ := rfl
theorem eg_ar_new (σ : en_S) (c k : Nat) : en_ar (en_new σ c k) = en_ar σ := rfl
theorem eg_ad_new (σ : en_S) (c k : Nat) : en_ad (en_new σ c k) = en_ad σ := rfl
theorem eg_aj_new (σ : en_S) (c k : Nat) : en_aj (en_new σ c k) = en_aj σ := rfl
theorem eg_nx_new (σ : en_S) (c k : Nat) : en_nx (en_new σ c k) = en_nx σ + 1 := rfl
theorem eg_ns_new (σ : en_S) (c k : Nat) : en_ns (en_new σ c k) = en_ns σ + k := rfl
theorem eg_cl_newa (σ : en_S) (c k : Nat) : en_cl (en_newa σ c k) = en_cl σ := rfl
theorem eg_fi_newa (σ : en_S) (c k : Nat) : en_fi (en_newa σ c k) = en_fi σ := rfl
theorem eg_fr_newa (σ : en_S) (c k : Nat) : en_fr (en_newa σ c k) = en_fr σ := rfl
theorem eg_fd_newa (σ : en_S) (c k : Nat) : en_fd (en_newa σ c k) = en_fd σ := rfl
theorem eg_al_newa (σ : en_S) (c k : Nat) (b : Nat) : en_al (en_newa σ c k) b = if b = en_nx σ then some (c, k) else en_al σ b := rfl
theorem eg_ai_newa (σ : en_S) (c k : Nat) (b i : Nat) : en_ai (en_newa σ c k) b i = if b = en_nx σ then 0 else en_ai σ b i := rfl
theorem eg_ar_newa (σ : en_S) (c k : Nat) (b i : Nat) : en_ar (en_newa σ c k) b i = if b = en_nx σ then none else en_ar σ b i := rfl
theorem eg_ad_newa (σ : en_S) (c k : Nat) (b i : Nat) : en_ad (en_newa σ c k) b i = if b = en_nx σ then 0 else en_ad σ b i := rfl
theorem eg_aj_newa (σ : en_S) (c k : Nat) (b i : Nat) : en_aj (en_newa σ c k) b i = if b = en_nx σ then 0 else en_aj σ b i := rfl
theorem eg_nx_newa (σ : en_S) (c k : Nat) : en_nx (en_newa σ c k) = en_nx σ + 1 := rfl
theorem eg_ns_newa (σ : en_S) (c k : Nat) : en_ns (en_newa σ c k) = en_ns σ + k := rfl
theorem eg_cl_bump (σ : en_S) (k : Nat) : en_cl (en_bump σ k) = en_cl σ := rfl
theorem eg_fi_bump (σ : en_S) (k : Nat) : en_fi (en_bump σ k) = en_fi σ := rfl
theorem eg_fr_bump (σ : en_S) (k : Nat) : en_fr (en_bump σ k) = en_fr σ := rfl
theorem eg_fd_bump (σ : en_S) (k : Nat) : en_fd (en_bump σ k) = en_fd σ := rfl
theorem eg_al_bump (σ : en_S) (k : Nat) : en_al (en_bump σ k) = en_al σ := rfl
theorem eg_ai_bump (σ : en_S) (k : Nat) : en_ai (en_bump σ k) = en_ai σ := rfl
theorem eg_ar_bump (σ : en_S) (k : Nat) : en_ar (en_bump σ k) = en_ar σ := rfl
theorem eg_ad_bump (σ : en_S) (k : Nat) : en_ad (en_bump σ k) = en_ad σ := rfl
theorem eg_aj_bump (σ : en_S) (k : Nat) : en_aj (en_bump σ k) = en_aj σ := rfl
theorem eg_nx_bump (σ : en_S) (k : Nat) : en_nx (en_bump σ k) = en_nx σ + 1 := rfl
theorem eg_ns_bump (σ : en_S) (k : Nat) : en_ns (en_bump σ k) = en_ns σ + k := rfl
