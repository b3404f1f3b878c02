/-! the group of a sentence: what setting one thing leaves -/
theorem g_node_node (M : MoT) (v : Nat → Int32) : Mo_node (Mo_s_node M v) = v := rfl
theorem g_nodes_node (M : MoT) (v : Nat → Int32) : Mo_nodes (Mo_s_node M v) = Mo_nodes M := rfl
theorem g_onesMany_node (M : MoT) (v : Nat → Int32) : Mo_onesMany (Mo_s_node M v) = Mo_onesMany M := rfl
theorem g_within_node (M : MoT) (v : Nat → Int32) : Mo_within (Mo_s_node M v) = Mo_within M := rfl
theorem g_top_node (M : MoT) (v : Nat → Int32) : Mo_top (Mo_s_node M v) = Mo_top M := rfl
theorem bl_node (M : MoT) (v : Nat → Int32) : pBl (Mo_s_node M v) = pBl M := rfl
theorem pG.s_node {n most : Nat} {B : Nat → Nat} {R : RdT} {M : MoT} (h : pG n most B R M) (v : Nat → Int32) : pG n most B R (Mo_s_node M v) := h
theorem pW.s_node {R : RdT} {M : MoT} (h : pW R M) (v : Nat → Int32) : pW R (Mo_s_node M v) := h
theorem pEnv.s_node0 (M : MoT) (v : Nat → Int32) : Mo_now (Mo_s_node M v) = Mo_now M ∧ Mo_name (Mo_s_node M v) = Mo_name M ∧ Mo_kind (Mo_s_node M v) = Mo_kind M ∧ Mo_told (Mo_s_node M v) = Mo_told M ∧ Mo_sign (Mo_s_node M v) = Mo_sign M := ⟨rfl, rfl, rfl, rfl, rfl⟩
theorem g_node_nodes (M : MoT) (v : Int32) : Mo_node (Mo_s_nodes M v) = Mo_node M := rfl
theorem g_nodes_nodes (M : MoT) (v : Int32) : Mo_nodes (Mo_s_nodes M v) = v := rfl
theorem g_onesMany_nodes (M : MoT) (v : Int32) : Mo_onesMany (Mo_s_nodes M v) = Mo_onesMany M := rfl
theorem g_within_nodes (M : MoT) (v : Int32) : Mo_within (Mo_s_nodes M v) = Mo_within M := rfl
theorem g_top_nodes (M : MoT) (v : Int32) : Mo_top (Mo_s_nodes M v) = Mo_top M := rfl
theorem bl_nodes (M : MoT) (v : Int32) : pBl (Mo_s_nodes M v) = pBl M := rfl
theorem pG.s_nodes {n most : Nat} {B : Nat → Nat} {R : RdT} {M : MoT} (h : pG n most B R M) (v : Int32) : pG n most B R (Mo_s_nodes M v) := h
theorem pW.s_nodes {R : RdT} {M : MoT} (h : pW R M) (v : Int32) : pW R (Mo_s_nodes M v) := h
theorem pEnv.s_nodes0 (M : MoT) (v : Int32) : Mo_now (Mo_s_nodes M v) = Mo_now M ∧ Mo_name (Mo_s_nodes M v) = Mo_name M ∧ Mo_kind (Mo_s_nodes M v) = Mo_kind M ∧ Mo_told (Mo_s_nodes M v) = Mo_told M ∧ Mo_sign (Mo_s_nodes M v) = Mo_sign M := ⟨rfl, rfl, rfl, rfl, rfl⟩
theorem g_node_onesMany (M : MoT) (v : Int32) : Mo_node (Mo_s_onesMany M v) = Mo_node M := rfl
theorem g_nodes_onesMany (M : MoT) (v : Int32) : Mo_nodes (Mo_s_onesMany M v) = Mo_nodes M := rfl
theorem g_onesMany_onesMany (M : MoT) (v : Int32) : Mo_onesMany (Mo_s_onesMany M v) = v := rfl
theorem g_within_onesMany (M : MoT) (v : Int32) : Mo_within (Mo_s_onesMany M v) = Mo_within M := rfl
theorem g_top_onesMany (M : MoT) (v : Int32) : Mo_top (Mo_s_onesMany M v) = Mo_top M := rfl
theorem bl_onesMany (M : MoT) (v : Int32) : pBl (Mo_s_onesMany M v) = pBl M := rfl
theorem pG.s_onesMany {n most : Nat} {B : Nat → Nat} {R : RdT} {M : MoT} (h : pG n most B R M) (v : Int32) : pG n most B R (Mo_s_onesMany M v) := h
theorem pW.s_onesMany {R : RdT} {M : MoT} (h : pW R M) (v : Int32) : pW R (Mo_s_onesMany M v) := h
theorem pEnv.s_onesMany0 (M : MoT) (v : Int32) : Mo_now (Mo_s_onesMany M v) = Mo_now M ∧ Mo_name (Mo_s_onesMany M v) = Mo_name M ∧ Mo_kind (Mo_s_onesMany M v) = Mo_kind M ∧ Mo_told (Mo_s_onesMany M v) = Mo_told M ∧ Mo_sign (Mo_s_onesMany M v) = Mo_sign M := ⟨rfl, rfl, rfl, rfl, rfl⟩
theorem g_node_within (M : MoT) (v : Int32) : Mo_node (Mo_s_within M v) = Mo_node M := rfl
theorem g_nodes_within (M : MoT) (v : Int32) : Mo_nodes (Mo_s_within M v) = Mo_nodes M := rfl
theorem g_onesMany_within (M : MoT) (v : Int32) : Mo_onesMany (Mo_s_within M v) = Mo_onesMany M := rfl
theorem g_within_within (M : MoT) (v : Int32) : Mo_within (Mo_s_within M v) = v := rfl
theorem g_top_within (M : MoT) (v : Int32) : Mo_top (Mo_s_within M v) = Mo_top M := rfl
theorem bl_within (M : MoT) (v : Int32) : pBl (Mo_s_within M v) = pBl M := rfl
theorem pG.s_within {n most : Nat} {B : Nat → Nat} {R : RdT} {M : MoT} (h : pG n most B R M) (v : Int32) : pG n most B R (Mo_s_within M v) := h
theorem pW.s_within {R : RdT} {M : MoT} (h : pW R M) (v : Int32) : pW R (Mo_s_within M v) := h
theorem pEnv.s_within0 (M : MoT) (v : Int32) : Mo_now (Mo_s_within M v) = Mo_now M ∧ Mo_name (Mo_s_within M v) = Mo_name M ∧ Mo_kind (Mo_s_within M v) = Mo_kind M ∧ Mo_told (Mo_s_within M v) = Mo_told M ∧ Mo_sign (Mo_s_within M v) = Mo_sign M := ⟨rfl, rfl, rfl, rfl, rfl⟩
theorem g_node_top (M : MoT) (v : Int32) : Mo_node (Mo_s_top M v) = Mo_node M := rfl
theorem g_nodes_top (M : MoT) (v : Int32) : Mo_nodes (Mo_s_top M v) = Mo_nodes M := rfl
theorem g_onesMany_top (M : MoT) (v : Int32) : Mo_onesMany (Mo_s_top M v) = Mo_onesMany M := rfl
theorem g_within_top (M : MoT) (v : Int32) : Mo_within (Mo_s_top M v) = Mo_within M := rfl
theorem g_top_top (M : MoT) (v : Int32) : Mo_top (Mo_s_top M v) = v := rfl
theorem bl_top (M : MoT) (v : Int32) : pBl (Mo_s_top M v) = pBl M := rfl
theorem pG.s_top {n most : Nat} {B : Nat → Nat} {R : RdT} {M : MoT} (h : pG n most B R M) (v : Int32) : pG n most B R (Mo_s_top M v) := h
theorem pW.s_top {R : RdT} {M : MoT} (h : pW R M) (v : Int32) : pW R (Mo_s_top M v) := h
theorem pEnv.s_top0 (M : MoT) (v : Int32) : Mo_now (Mo_s_top M v) = Mo_now M ∧ Mo_name (Mo_s_top M v) = Mo_name M ∧ Mo_kind (Mo_s_top M v) = Mo_kind M ∧ Mo_told (Mo_s_top M v) = Mo_told M ∧ Mo_sign (Mo_s_top M v) = Mo_sign M := ⟨rfl, rfl, rfl, rfl, rfl⟩
