theorem mv_mem_app {α : Type} {P : α → Prop} {a b : List α} (h1 : ∀ q ∈ a, P q) (h2 : ∀ q ∈ b, P q) : ∀ q ∈ a ++ b, P q := fun q h => (List.mem_append.mp h).elim (h1 q) (h2 q)
def mv_mc_0 : List (mv_M × mv_Cd) := [(mv_m0, mv_c0), (mv_m1, mv_c1), (mv_m2, mv_c2), (mv_m3, mv_c3), (mv_m4, mv_c4), (mv_m5, mv_c5), (mv_m6, mv_c6), (mv_m7, mv_c7), (mv_m8, mv_c8), (mv_m9, mv_c9), (mv_m10, mv_c10), (mv_m11, mv_c11), (mv_m12, mv_c12), (mv_m13, mv_c13), (mv_m14, mv_c14), (mv_m15, mv_c15), (mv_m16, mv_c16), (mv_m17, mv_c17), (mv_m18, mv_c18), (mv_m19, mv_c19), (mv_m20, mv_c20), (mv_m21, mv_c21), (mv_m22, mv_c22), (mv_m23, mv_c23), (mv_m24, mv_c24), (mv_m25, mv_c25), (mv_m26, mv_c26), (mv_m27, mv_c27), (mv_m28, mv_c28), (mv_m29, mv_c29), (mv_m30, mv_c30), (mv_m31, mv_c31)]
theorem mv_dk_0 : ∀ q ∈ mv_mc_0, mv_mK q := (List.forall_mem_cons.mpr ⟨mv_d0, (List.forall_mem_cons.mpr ⟨mv_d1, (List.forall_mem_cons.mpr ⟨mv_d2, (List.forall_mem_cons.mpr ⟨mv_d3, (List.forall_mem_cons.mpr ⟨mv_d4, (List.forall_mem_cons.mpr ⟨mv_d5, (List.forall_mem_cons.mpr ⟨mv_d6, (List.forall_mem_cons.mpr ⟨mv_d7, (List.forall_mem_cons.mpr ⟨mv_d8, (List.forall_mem_cons.mpr ⟨mv_d9, (List.forall_mem_cons.mpr ⟨mv_d10, (List.forall_mem_cons.mpr ⟨mv_d11, (List.forall_mem_cons.mpr ⟨mv_d12, (List.forall_mem_cons.mpr ⟨mv_d13, (List.forall_mem_cons.mpr ⟨mv_d14, (List.forall_mem_cons.mpr ⟨mv_d15, (List.forall_mem_cons.mpr ⟨mv_d16, (List.forall_mem_cons.mpr ⟨mv_d17, (List.forall_mem_cons.mpr ⟨mv_d18, (List.forall_mem_cons.mpr ⟨mv_d19, (List.forall_mem_cons.mpr ⟨mv_d20, (List.forall_mem_cons.mpr ⟨mv_d21, (List.forall_mem_cons.mpr ⟨mv_d22, (List.forall_mem_cons.mpr ⟨mv_d23, (List.forall_mem_cons.mpr ⟨mv_d24, (List.forall_mem_cons.mpr ⟨mv_d25, (List.forall_mem_cons.mpr ⟨mv_d26, (List.forall_mem_cons.mpr ⟨mv_d27, (List.forall_mem_cons.mpr ⟨mv_d28, (List.forall_mem_cons.mpr ⟨mv_d29, (List.forall_mem_cons.mpr ⟨mv_d30, (List.forall_mem_cons.mpr ⟨mv_d31, (fun _ h => absurd h List.not_mem_nil)⟩)⟩)⟩)⟩)⟩)⟩)⟩)⟩)⟩)⟩)⟩)⟩)⟩)⟩)⟩)⟩)⟩)⟩)⟩)⟩)⟩)⟩)⟩)⟩)⟩)⟩)⟩)⟩)⟩)⟩)⟩)⟩)
def mv_mc_1 : List (mv_M × mv_Cd) := [(mv_m32, mv_c32), (mv_m33, mv_c33), (mv_m34, mv_c34), (mv_m35, mv_c35), (mv_m36, mv_c36), (mv_m37, mv_c37), (mv_m38, mv_c38), (mv_m39, mv_c39), (mv_m40, mv_c40), (mv_m41, mv_c41), (mv_m42, mv_c42), (mv_m43, mv_c43), (mv_m44, mv_c44), (mv_m45, mv_c45), (mv_m46, mv_c46), (mv_m47, mv_c47), (mv_m48, mv_c48), (mv_m49, mv_c49), (mv_m50, mv_c50), (mv_m51, mv_c51), (mv_m52, mv_c52), (mv_m53, mv_c53), (mv_m54, mv_c54), (mv_m55, mv_c55), (mv_m56, mv_c56), (mv_m57, mv_c57), (mv_m58, mv_c58), (mv_m59, mv_c59), (mv_m60, mv_c60), (mv_m61, mv_c61), (mv_m62, mv_c62), (mv_m63, mv_c63)]
theorem mv_dk_1 : ∀ q ∈ mv_mc_1, mv_mK q := (List.forall_mem_cons.mpr ⟨mv_d32, (List.forall_mem_cons.mpr ⟨mv_d33, (List.forall_mem_cons.mpr ⟨mv_d34, (List.forall_mem_cons.mpr ⟨mv_d35, (List.forall_mem_cons.mpr ⟨mv_d36, (List.forall_mem_cons.mpr ⟨mv_d37, (List.forall_mem_cons.mpr ⟨mv_d38, (List.forall_mem_cons.mpr ⟨mv_d39, (List.forall_mem_cons.mpr ⟨mv_d40, (List.forall_mem_cons.mpr ⟨mv_d41, (List.forall_mem_cons.mpr ⟨mv_d42, (List.forall_mem_cons.mpr ⟨mv_d43, (List.forall_mem_cons.mpr ⟨mv_d44, (List.forall_mem_cons.mpr ⟨mv_d45, (List.forall_mem_cons.mpr ⟨mv_d46, (List.forall_mem_cons.mpr ⟨mv_d47, (List.forall_mem_cons.mpr ⟨mv_d48, (List.forall_mem_cons.mpr ⟨mv_d49, (List.forall_mem_cons.mpr ⟨mv_d50, (List.forall_mem_cons.mpr ⟨mv_d51, (List.forall_mem_cons.mpr ⟨mv_d52, (List.forall_mem_cons.mpr ⟨mv_d53, (List.forall_mem_cons.mpr ⟨mv_d54, (List.forall_mem_cons.mpr ⟨mv_d55, (List.forall_mem_cons.mpr ⟨mv_d56, (List.forall_mem_cons.mpr ⟨mv_d57, (List.forall_mem_cons.mpr ⟨mv_d58, (List.forall_mem_cons.mpr ⟨mv_d59, (List.forall_mem_cons.mpr ⟨mv_d60, (List.forall_mem_cons.mpr ⟨mv_d61, (List.forall_mem_cons.mpr ⟨mv_d62, (List.forall_mem_cons.mpr ⟨mv_d63, (fun _ h => absurd h List.not_mem_nil)⟩)⟩)⟩)⟩)⟩)⟩)⟩)⟩)⟩)⟩)⟩)⟩)⟩)⟩)⟩)⟩)⟩)⟩)⟩)⟩)⟩)⟩)⟩)⟩)⟩)⟩)⟩)⟩)⟩)⟩)⟩)⟩)
def mv_mc_2 : List (mv_M × mv_Cd) := [(mv_m64, mv_c64), (mv_m65, mv_c65), (mv_m66, mv_c66), (mv_m67, mv_c67), (mv_m68, mv_c68), (mv_m69, mv_c69), (mv_m70, mv_c70), (mv_m71, mv_c71), (mv_m72, mv_c72), (mv_m73, mv_c73), (mv_m74, mv_c74), (mv_m75, mv_c75), (mv_m76, mv_c76), (mv_m77, mv_c77), (mv_m78, mv_c78), (mv_m79, mv_c79), (mv_m80, mv_c80), (mv_m81, mv_c81), (mv_m82, mv_c82), (mv_m83, mv_c83), (mv_m84, mv_c84), (mv_m85, mv_c85), (mv_m86, mv_c86), (mv_m87, mv_c87), (mv_m88, mv_c88), (mv_m89, mv_c89), (mv_m90, mv_c90), (mv_m91, mv_c91), (mv_m92, mv_c92), (mv_m93, mv_c93), (mv_m94, mv_c94), (mv_m95, mv_c95)]
theorem mv_dk_2 : ∀ q ∈ mv_mc_2, mv_mK q := (List.forall_mem_cons.mpr ⟨mv_d64, (List.forall_mem_cons.mpr ⟨mv_d65, (List.forall_mem_cons.mpr ⟨mv_d66, (List.forall_mem_cons.mpr ⟨mv_d67, (List.forall_mem_cons.mpr ⟨mv_d68, (List.forall_mem_cons.mpr ⟨mv_d69, (List.forall_mem_cons.mpr ⟨mv_d70, (List.forall_mem_cons.mpr ⟨mv_d71, (List.forall_mem_cons.mpr ⟨mv_d72, (List.forall_mem_cons.mpr ⟨mv_d73, (List.forall_mem_cons.mpr ⟨mv_d74, (List.forall_mem_cons.mpr ⟨mv_d75, (List.forall_mem_cons.mpr ⟨mv_d76, (List.forall_mem_cons.mpr ⟨mv_d77, (List.forall_mem_cons.mpr ⟨mv_d78, (List.forall_mem_cons.mpr ⟨mv_d79, (List.forall_mem_cons.mpr ⟨mv_d80, (List.forall_mem_cons.mpr ⟨mv_d81, (List.forall_mem_cons.mpr ⟨mv_d82, (List.forall_mem_cons.mpr ⟨mv_d83, (List.forall_mem_cons.mpr ⟨mv_d84, (List.forall_mem_cons.mpr ⟨mv_d85, (List.forall_mem_cons.mpr ⟨mv_d86, (List.forall_mem_cons.mpr ⟨mv_d87, (List.forall_mem_cons.mpr ⟨mv_d88, (List.forall_mem_cons.mpr ⟨mv_d89, (List.forall_mem_cons.mpr ⟨mv_d90, (List.forall_mem_cons.mpr ⟨mv_d91, (List.forall_mem_cons.mpr ⟨mv_d92, (List.forall_mem_cons.mpr ⟨mv_d93, (List.forall_mem_cons.mpr ⟨mv_d94, (List.forall_mem_cons.mpr ⟨mv_d95, (fun _ h => absurd h List.not_mem_nil)⟩)⟩)⟩)⟩)⟩)⟩)⟩)⟩)⟩)⟩)⟩)⟩)⟩)⟩)⟩)⟩)⟩)⟩)⟩)⟩)⟩)⟩)⟩)⟩)⟩)⟩)⟩)⟩)⟩)⟩)⟩)⟩)
def mv_mc_3 : List (mv_M × mv_Cd) := [(mv_m96, mv_c96), (mv_m97, mv_c97), (mv_m98, mv_c98), (mv_m99, mv_c99), (mv_m100, mv_c100), (mv_m101, mv_c101), (mv_m102, mv_c102), (mv_m103, mv_c103), (mv_m104, mv_c104), (mv_m105, mv_c105), (mv_m106, mv_c106), (mv_m107, mv_c107), (mv_m108, mv_c108), (mv_m109, mv_c109), (mv_m110, mv_c110), (mv_m111, mv_c111), (mv_m112, mv_c112), (mv_m113, mv_c113), (mv_m114, mv_c114), (mv_m115, mv_c115), (mv_m116, mv_c116), (mv_m117, mv_c117), (mv_m118, mv_c118), (mv_m119, mv_c119), (mv_m120, mv_c120), (mv_m121, mv_c121), (mv_m122, mv_c122), (mv_m123, mv_c123), (mv_m124, mv_c124), (mv_m125, mv_c125), (mv_m126, mv_c126), (mv_m127, mv_c127)]
theorem mv_dk_3 : ∀ q ∈ mv_mc_3, mv_mK q := (List.forall_mem_cons.mpr ⟨mv_d96, (List.forall_mem_cons.mpr ⟨mv_d97, (List.forall_mem_cons.mpr ⟨mv_d98, (List.forall_mem_cons.mpr ⟨mv_d99, (List.forall_mem_cons.mpr ⟨mv_d100, (List.forall_mem_cons.mpr ⟨mv_d101, (List.forall_mem_cons.mpr ⟨mv_d102, (List.forall_mem_cons.mpr ⟨mv_d103, (List.forall_mem_cons.mpr ⟨mv_d104, (List.forall_mem_cons.mpr ⟨mv_d105, (List.forall_mem_cons.mpr ⟨mv_d106, (List.forall_mem_cons.mpr ⟨mv_d107, (List.forall_mem_cons.mpr ⟨mv_d108, (List.forall_mem_cons.mpr ⟨mv_d109, (List.forall_mem_cons.mpr ⟨mv_d110, (List.forall_mem_cons.mpr ⟨mv_d111, (List.forall_mem_cons.mpr ⟨mv_d112, (List.forall_mem_cons.mpr ⟨mv_d113, (List.forall_mem_cons.mpr ⟨mv_d114, (List.forall_mem_cons.mpr ⟨mv_d115, (List.forall_mem_cons.mpr ⟨mv_d116, (List.forall_mem_cons.mpr ⟨mv_d117, (List.forall_mem_cons.mpr ⟨mv_d118, (List.forall_mem_cons.mpr ⟨mv_d119, (List.forall_mem_cons.mpr ⟨mv_d120, (List.forall_mem_cons.mpr ⟨mv_d121, (List.forall_mem_cons.mpr ⟨mv_d122, (List.forall_mem_cons.mpr ⟨mv_d123, (List.forall_mem_cons.mpr ⟨mv_d124, (List.forall_mem_cons.mpr ⟨mv_d125, (List.forall_mem_cons.mpr ⟨mv_d126, (List.forall_mem_cons.mpr ⟨mv_d127, (fun _ h => absurd h List.not_mem_nil)⟩)⟩)⟩)⟩)⟩)⟩)⟩)⟩)⟩)⟩)⟩)⟩)⟩)⟩)⟩)⟩)⟩)⟩)⟩)⟩)⟩)⟩)⟩)⟩)⟩)⟩)⟩)⟩)⟩)⟩)⟩)⟩)
def mv_mc_4 : List (mv_M × mv_Cd) := [(mv_m128, mv_c128), (mv_m129, mv_c129), (mv_m130, mv_c130), (mv_m131, mv_c131), (mv_m132, mv_c132), (mv_m133, mv_c133), (mv_m134, mv_c134), (mv_m135, mv_c135), (mv_m136, mv_c136), (mv_m137, mv_c137), (mv_m138, mv_c138), (mv_m139, mv_c139), (mv_m140, mv_c140), (mv_m141, mv_c141), (mv_m142, mv_c142), (mv_m143, mv_c143), (mv_m144, mv_c144), (mv_m145, mv_c145), (mv_m146, mv_c146), (mv_m147, mv_c147), (mv_m148, mv_c148), (mv_m149, mv_c149), (mv_m150, mv_c150), (mv_m151, mv_c151), (mv_m152, mv_c152), (mv_m153, mv_c153), (mv_m154, mv_c154), (mv_m155, mv_c155), (mv_m156, mv_c156), (mv_m157, mv_c157), (mv_m158, mv_c158), (mv_m159, mv_c159)]
theorem mv_dk_4 : ∀ q ∈ mv_mc_4, mv_mK q := (List.forall_mem_cons.mpr ⟨mv_d128, (List.forall_mem_cons.mpr ⟨mv_d129, (List.forall_mem_cons.mpr ⟨mv_d130, (List.forall_mem_cons.mpr ⟨mv_d131, (List.forall_mem_cons.mpr ⟨mv_d132, (List.forall_mem_cons.mpr ⟨mv_d133, (List.forall_mem_cons.mpr ⟨mv_d134, (List.forall_mem_cons.mpr ⟨mv_d135, (List.forall_mem_cons.mpr ⟨mv_d136, (List.forall_mem_cons.mpr ⟨mv_d137, (List.forall_mem_cons.mpr ⟨mv_d138, (List.forall_mem_cons.mpr ⟨mv_d139, (List.forall_mem_cons.mpr ⟨mv_d140, (List.forall_mem_cons.mpr ⟨mv_d141, (List.forall_mem_cons.mpr ⟨mv_d142, (List.forall_mem_cons.mpr ⟨mv_d143, (List.forall_mem_cons.mpr ⟨mv_d144, (List.forall_mem_cons.mpr ⟨mv_d145, (List.forall_mem_cons.mpr ⟨mv_d146, (List.forall_mem_cons.mpr ⟨mv_d147, (List.forall_mem_cons.mpr ⟨mv_d148, (List.forall_mem_cons.mpr ⟨mv_d149, (List.forall_mem_cons.mpr ⟨mv_d150, (List.forall_mem_cons.mpr ⟨mv_d151, (List.forall_mem_cons.mpr ⟨mv_d152, (List.forall_mem_cons.mpr ⟨mv_d153, (List.forall_mem_cons.mpr ⟨mv_d154, (List.forall_mem_cons.mpr ⟨mv_d155, (List.forall_mem_cons.mpr ⟨mv_d156, (List.forall_mem_cons.mpr ⟨mv_d157, (List.forall_mem_cons.mpr ⟨mv_d158, (List.forall_mem_cons.mpr ⟨mv_d159, (fun _ h => absurd h List.not_mem_nil)⟩)⟩)⟩)⟩)⟩)⟩)⟩)⟩)⟩)⟩)⟩)⟩)⟩)⟩)⟩)⟩)⟩)⟩)⟩)⟩)⟩)⟩)⟩)⟩)⟩)⟩)⟩)⟩)⟩)⟩)⟩)⟩)
def mv_mc_5 : List (mv_M × mv_Cd) := [(mv_m160, mv_c160), (mv_m161, mv_c161), (mv_m162, mv_c162), (mv_m163, mv_c163), (mv_m164, mv_c164), (mv_m165, mv_c165), (mv_m166, mv_c166), (mv_m167, mv_c167), (mv_m168, mv_c168), (mv_m169, mv_c169), (mv_m170, mv_c170), (mv_m171, mv_c171), (mv_m172, mv_c172), (mv_m173, mv_c173), (mv_m174, mv_c174), (mv_m175, mv_c175), (mv_m176, mv_c176), (mv_m177, mv_c177), (mv_m178, mv_c178), (mv_m179, mv_c179), (mv_m180, mv_c180), (mv_m181, mv_c181), (mv_m182, mv_c182), (mv_m183, mv_c183), (mv_m184, mv_c184), (mv_m185, mv_c185), (mv_m186, mv_c186), (mv_m187, mv_c187), (mv_m188, mv_c188), (mv_m189, mv_c189), (mv_m190, mv_c190), (mv_m191, mv_c191)]
theorem mv_dk_5 : ∀ q ∈ mv_mc_5, mv_mK q := (List.forall_mem_cons.mpr ⟨mv_d160, (List.forall_mem_cons.mpr ⟨mv_d161, (List.forall_mem_cons.mpr ⟨mv_d162, (List.forall_mem_cons.mpr ⟨mv_d163, (List.forall_mem_cons.mpr ⟨mv_d164, (List.forall_mem_cons.mpr ⟨mv_d165, (List.forall_mem_cons.mpr ⟨mv_d166, (List.forall_mem_cons.mpr ⟨mv_d167, (List.forall_mem_cons.mpr ⟨mv_d168, (List.forall_mem_cons.mpr ⟨mv_d169, (List.forall_mem_cons.mpr ⟨mv_d170, (List.forall_mem_cons.mpr ⟨mv_d171, (List.forall_mem_cons.mpr ⟨mv_d172, (List.forall_mem_cons.mpr ⟨mv_d173, (List.forall_mem_cons.mpr ⟨mv_d174, (List.forall_mem_cons.mpr ⟨mv_d175, (List.forall_mem_cons.mpr ⟨mv_d176, (List.forall_mem_cons.mpr ⟨mv_d177, (List.forall_mem_cons.mpr ⟨mv_d178, (List.forall_mem_cons.mpr ⟨mv_d179, (List.forall_mem_cons.mpr ⟨mv_d180, (List.forall_mem_cons.mpr ⟨mv_d181, (List.forall_mem_cons.mpr ⟨mv_d182, (List.forall_mem_cons.mpr ⟨mv_d183, (List.forall_mem_cons.mpr ⟨mv_d184, (List.forall_mem_cons.mpr ⟨mv_d185, (List.forall_mem_cons.mpr ⟨mv_d186, (List.forall_mem_cons.mpr ⟨mv_d187, (List.forall_mem_cons.mpr ⟨mv_d188, (List.forall_mem_cons.mpr ⟨mv_d189, (List.forall_mem_cons.mpr ⟨mv_d190, (List.forall_mem_cons.mpr ⟨mv_d191, (fun _ h => absurd h List.not_mem_nil)⟩)⟩)⟩)⟩)⟩)⟩)⟩)⟩)⟩)⟩)⟩)⟩)⟩)⟩)⟩)⟩)⟩)⟩)⟩)⟩)⟩)⟩)⟩)⟩)⟩)⟩)⟩)⟩)⟩)⟩)⟩)⟩)
def mv_mc_6 : List (mv_M × mv_Cd) := [(mv_m192, mv_c192), (mv_m193, mv_c193), (mv_m194, mv_c194), (mv_m195, mv_c195), (mv_m196, mv_c196), (mv_m197, mv_c197), (mv_m198, mv_c198), (mv_m199, mv_c199), (mv_m200, mv_c200), (mv_m201, mv_c201), (mv_m202, mv_c202), (mv_m203, mv_c203), (mv_m204, mv_c204), (mv_m205, mv_c205), (mv_m206, mv_c206), (mv_m207, mv_c207), (mv_m208, mv_c208), (mv_m209, mv_c209), (mv_m210, mv_c210), (mv_m211, mv_c211), (mv_m212, mv_c212), (mv_m213, mv_c213), (mv_m214, mv_c214), (mv_m215, mv_c215), (mv_m216, mv_c216), (mv_m217, mv_c217), (mv_m218, mv_c218), (mv_m219, mv_c219), (mv_m220, mv_c220), (mv_m221, mv_c221), (mv_m222, mv_c222), (mv_m223, mv_c223)]
theorem mv_dk_6 : ∀ q ∈ mv_mc_6, mv_mK q := (List.forall_mem_cons.mpr ⟨mv_d192, (List.forall_mem_cons.mpr ⟨mv_d193, (List.forall_mem_cons.mpr ⟨mv_d194, (List.forall_mem_cons.mpr ⟨mv_d195, (List.forall_mem_cons.mpr ⟨mv_d196, (List.forall_mem_cons.mpr ⟨mv_d197, (List.forall_mem_cons.mpr ⟨mv_d198, (List.forall_mem_cons.mpr ⟨mv_d199, (List.forall_mem_cons.mpr ⟨mv_d200, (List.forall_mem_cons.mpr ⟨mv_d201, (List.forall_mem_cons.mpr ⟨mv_d202, (List.forall_mem_cons.mpr ⟨mv_d203, (List.forall_mem_cons.mpr ⟨mv_d204, (List.forall_mem_cons.mpr ⟨mv_d205, (List.forall_mem_cons.mpr ⟨mv_d206, (List.forall_mem_cons.mpr ⟨mv_d207, (List.forall_mem_cons.mpr ⟨mv_d208, (List.forall_mem_cons.mpr ⟨mv_d209, (List.forall_mem_cons.mpr ⟨mv_d210, (List.forall_mem_cons.mpr ⟨mv_d211, (List.forall_mem_cons.mpr ⟨mv_d212, (List.forall_mem_cons.mpr ⟨mv_d213, (List.forall_mem_cons.mpr ⟨mv_d214, (List.forall_mem_cons.mpr ⟨mv_d215, (List.forall_mem_cons.mpr ⟨mv_d216, (List.forall_mem_cons.mpr ⟨mv_d217, (List.forall_mem_cons.mpr ⟨mv_d218, (List.forall_mem_cons.mpr ⟨mv_d219, (List.forall_mem_cons.mpr ⟨mv_d220, (List.forall_mem_cons.mpr ⟨mv_d221, (List.forall_mem_cons.mpr ⟨mv_d222, (List.forall_mem_cons.mpr ⟨mv_d223, (fun _ h => absurd h List.not_mem_nil)⟩)⟩)⟩)⟩)⟩)⟩)⟩)⟩)⟩)⟩)⟩)⟩)⟩)⟩)⟩)⟩)⟩)⟩)⟩)⟩)⟩)⟩)⟩)⟩)⟩)⟩)⟩)⟩)⟩)⟩)⟩)⟩)
def mv_mc_7 : List (mv_M × mv_Cd) := [(mv_m224, mv_c224), (mv_m225, mv_c225), (mv_m226, mv_c226), (mv_m227, mv_c227), (mv_m228, mv_c228), (mv_m229, mv_c229), (mv_m230, mv_c230), (mv_m231, mv_c231), (mv_m232, mv_c232), (mv_m233, mv_c233), (mv_m234, mv_c234), (mv_m235, mv_c235), (mv_m236, mv_c236), (mv_m237, mv_c237), (mv_m238, mv_c238), (mv_m239, mv_c239), (mv_m240, mv_c240), (mv_m241, mv_c241), (mv_m242, mv_c242), (mv_m243, mv_c243), (mv_m244, mv_c244), (mv_m245, mv_c245), (mv_m246, mv_c246), (mv_m247, mv_c247), (mv_m248, mv_c248), (mv_m249, mv_c249), (mv_m250, mv_c250), (mv_m251, mv_c251), (mv_m252, mv_c252), (mv_m253, mv_c253), (mv_m254, mv_c254), (mv_m255, mv_c255)]
theorem mv_dk_7 : ∀ q ∈ mv_mc_7, mv_mK q := (List.forall_mem_cons.mpr ⟨mv_d224, (List.forall_mem_cons.mpr ⟨mv_d225, (List.forall_mem_cons.mpr ⟨mv_d226, (List.forall_mem_cons.mpr ⟨mv_d227, (List.forall_mem_cons.mpr ⟨mv_d228, (List.forall_mem_cons.mpr ⟨mv_d229, (List.forall_mem_cons.mpr ⟨mv_d230, (List.forall_mem_cons.mpr ⟨mv_d231, (List.forall_mem_cons.mpr ⟨mv_d232, (List.forall_mem_cons.mpr ⟨mv_d233, (List.forall_mem_cons.mpr ⟨mv_d234, (List.forall_mem_cons.mpr ⟨mv_d235, (List.forall_mem_cons.mpr ⟨mv_d236, (List.forall_mem_cons.mpr ⟨mv_d237, (List.forall_mem_cons.mpr ⟨mv_d238, (List.forall_mem_cons.mpr ⟨mv_d239, (List.forall_mem_cons.mpr ⟨mv_d240, (List.forall_mem_cons.mpr ⟨mv_d241, (List.forall_mem_cons.mpr ⟨mv_d242, (List.forall_mem_cons.mpr ⟨mv_d243, (List.forall_mem_cons.mpr ⟨mv_d244, (List.forall_mem_cons.mpr ⟨mv_d245, (List.forall_mem_cons.mpr ⟨mv_d246, (List.forall_mem_cons.mpr ⟨mv_d247, (List.forall_mem_cons.mpr ⟨mv_d248, (List.forall_mem_cons.mpr ⟨mv_d249, (List.forall_mem_cons.mpr ⟨mv_d250, (List.forall_mem_cons.mpr ⟨mv_d251, (List.forall_mem_cons.mpr ⟨mv_d252, (List.forall_mem_cons.mpr ⟨mv_d253, (List.forall_mem_cons.mpr ⟨mv_d254, (List.forall_mem_cons.mpr ⟨mv_d255, (fun _ h => absurd h List.not_mem_nil)⟩)⟩)⟩)⟩)⟩)⟩)⟩)⟩)⟩)⟩)⟩)⟩)⟩)⟩)⟩)⟩)⟩)⟩)⟩)⟩)⟩)⟩)⟩)⟩)⟩)⟩)⟩)⟩)⟩)⟩)⟩)⟩)
def mv_mc_8 : List (mv_M × mv_Cd) := [(mv_m256, mv_c256)]
theorem mv_dk_8 : ∀ q ∈ mv_mc_8, mv_mK q := (List.forall_mem_cons.mpr ⟨mv_d256, (fun _ h => absurd h List.not_mem_nil)⟩)
set_option maxRecDepth 100000 in
theorem mv_mc_app : mv_mc = mv_mc_0 ++ (mv_mc_1 ++ (mv_mc_2 ++ (mv_mc_3 ++ (mv_mc_4 ++ (mv_mc_5 ++ (mv_mc_6 ++ (mv_mc_7 ++ (mv_mc_8)))))))) := rfl
theorem mv_dk : ∀ q ∈ mv_mc, mv_mK q := by
  rw [mv_mc_app]
  exact (mv_mem_app mv_dk_0 (mv_mem_app mv_dk_1 (mv_mem_app mv_dk_2 (mv_mem_app mv_dk_3 (mv_mem_app mv_dk_4 (mv_mem_app mv_dk_5 (mv_mem_app mv_dk_6 (mv_mem_app mv_dk_7 mv_dk_8))))))))
def mv_mW (_ : Nat) (m : mv_M) : Prop := mv_mwP m
theorem mv_mwk_0 (i : Nat) (hi : i < 32) : ∀ q, mv_mc_0[i]? = some q → mv_mW (0 + i) q.1 := by
  intro q hq
  match i, hi, hq with
  | 0, _, hq => cases hq; exact mv_mw0
  | 1, _, hq => cases hq; exact mv_mw1
  | 2, _, hq => cases hq; exact mv_mw2
  | 3, _, hq => cases hq; exact mv_mw3
  | 4, _, hq => cases hq; exact mv_mw4
  | 5, _, hq => cases hq; exact mv_mw5
  | 6, _, hq => cases hq; exact mv_mw6
  | 7, _, hq => cases hq; exact mv_mw7
  | 8, _, hq => cases hq; exact mv_mw8
  | 9, _, hq => cases hq; exact mv_mw9
  | 10, _, hq => cases hq; exact mv_mw10
  | 11, _, hq => cases hq; exact mv_mw11
  | 12, _, hq => cases hq; exact mv_mw12
  | 13, _, hq => cases hq; exact mv_mw13
  | 14, _, hq => cases hq; exact mv_mw14
  | 15, _, hq => cases hq; exact mv_mw15
  | 16, _, hq => cases hq; exact mv_mw16
  | 17, _, hq => cases hq; exact mv_mw17
  | 18, _, hq => cases hq; exact mv_mw18
  | 19, _, hq => cases hq; exact mv_mw19
  | 20, _, hq => cases hq; exact mv_mw20
  | 21, _, hq => cases hq; exact mv_mw21
  | 22, _, hq => cases hq; exact mv_mw22
  | 23, _, hq => cases hq; exact mv_mw23
  | 24, _, hq => cases hq; exact mv_mw24
  | 25, _, hq => cases hq; exact mv_mw25
  | 26, _, hq => cases hq; exact mv_mw26
  | 27, _, hq => cases hq; exact mv_mw27
  | 28, _, hq => cases hq; exact mv_mw28
  | 29, _, hq => cases hq; exact mv_mw29
  | 30, _, hq => cases hq; exact mv_mw30
  | 31, _, hq => cases hq; exact mv_mw31
theorem mv_mwk_1 (i : Nat) (hi : i < 32) : ∀ q, mv_mc_1[i]? = some q → mv_mW (32 + i) q.1 := by
  intro q hq
  match i, hi, hq with
  | 0, _, hq => cases hq; exact mv_mw32
  | 1, _, hq => cases hq; exact mv_mw33
  | 2, _, hq => cases hq; exact mv_mw34
  | 3, _, hq => cases hq; exact mv_mw35
  | 4, _, hq => cases hq; exact mv_mw36
  | 5, _, hq => cases hq; exact mv_mw37
  | 6, _, hq => cases hq; exact mv_mw38
  | 7, _, hq => cases hq; exact mv_mw39
  | 8, _, hq => cases hq; exact mv_mw40
  | 9, _, hq => cases hq; exact mv_mw41
  | 10, _, hq => cases hq; exact mv_mw42
  | 11, _, hq => cases hq; exact mv_mw43
  | 12, _, hq => cases hq; exact mv_mw44
  | 13, _, hq => cases hq; exact mv_mw45
  | 14, _, hq => cases hq; exact mv_mw46
  | 15, _, hq => cases hq; exact mv_mw47
  | 16, _, hq => cases hq; exact mv_mw48
  | 17, _, hq => cases hq; exact mv_mw49
  | 18, _, hq => cases hq; exact mv_mw50
  | 19, _, hq => cases hq; exact mv_mw51
  | 20, _, hq => cases hq; exact mv_mw52
  | 21, _, hq => cases hq; exact mv_mw53
  | 22, _, hq => cases hq; exact mv_mw54
  | 23, _, hq => cases hq; exact mv_mw55
  | 24, _, hq => cases hq; exact mv_mw56
  | 25, _, hq => cases hq; exact mv_mw57
  | 26, _, hq => cases hq; exact mv_mw58
  | 27, _, hq => cases hq; exact mv_mw59
  | 28, _, hq => cases hq; exact mv_mw60
  | 29, _, hq => cases hq; exact mv_mw61
  | 30, _, hq => cases hq; exact mv_mw62
  | 31, _, hq => cases hq; exact mv_mw63
theorem mv_mwk_2 (i : Nat) (hi : i < 32) : ∀ q, mv_mc_2[i]? = some q → mv_mW (64 + i) q.1 := by
  intro q hq
  match i, hi, hq with
  | 0, _, hq => cases hq; exact mv_mw64
  | 1, _, hq => cases hq; exact mv_mw65
  | 2, _, hq => cases hq; exact mv_mw66
  | 3, _, hq => cases hq; exact mv_mw67
  | 4, _, hq => cases hq; exact mv_mw68
  | 5, _, hq => cases hq; exact mv_mw69
  | 6, _, hq => cases hq; exact mv_mw70
  | 7, _, hq => cases hq; exact mv_mw71
  | 8, _, hq => cases hq; exact mv_mw72
  | 9, _, hq => cases hq; exact mv_mw73
  | 10, _, hq => cases hq; exact mv_mw74
  | 11, _, hq => cases hq; exact mv_mw75
  | 12, _, hq => cases hq; exact mv_mw76
  | 13, _, hq => cases hq; exact mv_mw77
  | 14, _, hq => cases hq; exact mv_mw78
  | 15, _, hq => cases hq; exact mv_mw79
  | 16, _, hq => cases hq; exact mv_mw80
  | 17, _, hq => cases hq; exact mv_mw81
  | 18, _, hq => cases hq; exact mv_mw82
  | 19, _, hq => cases hq; exact mv_mw83
  | 20, _, hq => cases hq; exact mv_mw84
  | 21, _, hq => cases hq; exact mv_mw85
  | 22, _, hq => cases hq; exact mv_mw86
  | 23, _, hq => cases hq; exact mv_mw87
  | 24, _, hq => cases hq; exact mv_mw88
  | 25, _, hq => cases hq; exact mv_mw89
  | 26, _, hq => cases hq; exact mv_mw90
  | 27, _, hq => cases hq; exact mv_mw91
  | 28, _, hq => cases hq; exact mv_mw92
  | 29, _, hq => cases hq; exact mv_mw93
  | 30, _, hq => cases hq; exact mv_mw94
  | 31, _, hq => cases hq; exact mv_mw95
theorem mv_mwk_3 (i : Nat) (hi : i < 32) : ∀ q, mv_mc_3[i]? = some q → mv_mW (96 + i) q.1 := by
  intro q hq
  match i, hi, hq with
  | 0, _, hq => cases hq; exact mv_mw96
  | 1, _, hq => cases hq; exact mv_mw97
  | 2, _, hq => cases hq; exact mv_mw98
  | 3, _, hq => cases hq; exact mv_mw99
  | 4, _, hq => cases hq; exact mv_mw100
  | 5, _, hq => cases hq; exact mv_mw101
  | 6, _, hq => cases hq; exact mv_mw102
  | 7, _, hq => cases hq; exact mv_mw103
  | 8, _, hq => cases hq; exact mv_mw104
  | 9, _, hq => cases hq; exact mv_mw105
  | 10, _, hq => cases hq; exact mv_mw106
  | 11, _, hq => cases hq; exact mv_mw107
  | 12, _, hq => cases hq; exact mv_mw108
  | 13, _, hq => cases hq; exact mv_mw109
  | 14, _, hq => cases hq; exact mv_mw110
  | 15, _, hq => cases hq; exact mv_mw111
  | 16, _, hq => cases hq; exact mv_mw112
  | 17, _, hq => cases hq; exact mv_mw113
  | 18, _, hq => cases hq; exact mv_mw114
  | 19, _, hq => cases hq; exact mv_mw115
  | 20, _, hq => cases hq; exact mv_mw116
  | 21, _, hq => cases hq; exact mv_mw117
  | 22, _, hq => cases hq; exact mv_mw118
  | 23, _, hq => cases hq; exact mv_mw119
  | 24, _, hq => cases hq; exact mv_mw120
  | 25, _, hq => cases hq; exact mv_mw121
  | 26, _, hq => cases hq; exact mv_mw122
  | 27, _, hq => cases hq; exact mv_mw123
  | 28, _, hq => cases hq; exact mv_mw124
  | 29, _, hq => cases hq; exact mv_mw125
  | 30, _, hq => cases hq; exact mv_mw126
  | 31, _, hq => cases hq; exact mv_mw127
theorem mv_mwk_4 (i : Nat) (hi : i < 32) : ∀ q, mv_mc_4[i]? = some q → mv_mW (128 + i) q.1 := by
  intro q hq
  match i, hi, hq with
  | 0, _, hq => cases hq; exact mv_mw128
  | 1, _, hq => cases hq; exact mv_mw129
  | 2, _, hq => cases hq; exact mv_mw130
  | 3, _, hq => cases hq; exact mv_mw131
  | 4, _, hq => cases hq; exact mv_mw132
  | 5, _, hq => cases hq; exact mv_mw133
  | 6, _, hq => cases hq; exact mv_mw134
  | 7, _, hq => cases hq; exact mv_mw135
  | 8, _, hq => cases hq; exact mv_mw136
  | 9, _, hq => cases hq; exact mv_mw137
  | 10, _, hq => cases hq; exact mv_mw138
  | 11, _, hq => cases hq; exact mv_mw139
  | 12, _, hq => cases hq; exact mv_mw140
  | 13, _, hq => cases hq; exact mv_mw141
  | 14, _, hq => cases hq; exact mv_mw142
  | 15, _, hq => cases hq; exact mv_mw143
  | 16, _, hq => cases hq; exact mv_mw144
  | 17, _, hq => cases hq; exact mv_mw145
  | 18, _, hq => cases hq; exact mv_mw146
  | 19, _, hq => cases hq; exact mv_mw147
  | 20, _, hq => cases hq; exact mv_mw148
  | 21, _, hq => cases hq; exact mv_mw149
  | 22, _, hq => cases hq; exact mv_mw150
  | 23, _, hq => cases hq; exact mv_mw151
  | 24, _, hq => cases hq; exact mv_mw152
  | 25, _, hq => cases hq; exact mv_mw153
  | 26, _, hq => cases hq; exact mv_mw154
  | 27, _, hq => cases hq; exact mv_mw155
  | 28, _, hq => cases hq; exact mv_mw156
  | 29, _, hq => cases hq; exact mv_mw157
  | 30, _, hq => cases hq; exact mv_mw158
  | 31, _, hq => cases hq; exact mv_mw159
theorem mv_mwk_5 (i : Nat) (hi : i < 32) : ∀ q, mv_mc_5[i]? = some q → mv_mW (160 + i) q.1 := by
  intro q hq
  match i, hi, hq with
  | 0, _, hq => cases hq; exact mv_mw160
  | 1, _, hq => cases hq; exact mv_mw161
  | 2, _, hq => cases hq; exact mv_mw162
  | 3, _, hq => cases hq; exact mv_mw163
  | 4, _, hq => cases hq; exact mv_mw164
  | 5, _, hq => cases hq; exact mv_mw165
  | 6, _, hq => cases hq; exact mv_mw166
  | 7, _, hq => cases hq; exact mv_mw167
  | 8, _, hq => cases hq; exact mv_mw168
  | 9, _, hq => cases hq; exact mv_mw169
  | 10, _, hq => cases hq; exact mv_mw170
  | 11, _, hq => cases hq; exact mv_mw171
  | 12, _, hq => cases hq; exact mv_mw172
  | 13, _, hq => cases hq; exact mv_mw173
  | 14, _, hq => cases hq; exact mv_mw174
  | 15, _, hq => cases hq; exact mv_mw175
  | 16, _, hq => cases hq; exact mv_mw176
  | 17, _, hq => cases hq; exact mv_mw177
  | 18, _, hq => cases hq; exact mv_mw178
  | 19, _, hq => cases hq; exact mv_mw179
  | 20, _, hq => cases hq; exact mv_mw180
  | 21, _, hq => cases hq; exact mv_mw181
  | 22, _, hq => cases hq; exact mv_mw182
  | 23, _, hq => cases hq; exact mv_mw183
  | 24, _, hq => cases hq; exact mv_mw184
  | 25, _, hq => cases hq; exact mv_mw185
  | 26, _, hq => cases hq; exact mv_mw186
  | 27, _, hq => cases hq; exact mv_mw187
  | 28, _, hq => cases hq; exact mv_mw188
  | 29, _, hq => cases hq; exact mv_mw189
  | 30, _, hq => cases hq; exact mv_mw190
  | 31, _, hq => cases hq; exact mv_mw191
theorem mv_mwk_6 (i : Nat) (hi : i < 32) : ∀ q, mv_mc_6[i]? = some q → mv_mW (192 + i) q.1 := by
  intro q hq
  match i, hi, hq with
  | 0, _, hq => cases hq; exact mv_mw192
  | 1, _, hq => cases hq; exact mv_mw193
  | 2, _, hq => cases hq; exact mv_mw194
  | 3, _, hq => cases hq; exact mv_mw195
  | 4, _, hq => cases hq; exact mv_mw196
  | 5, _, hq => cases hq; exact mv_mw197
  | 6, _, hq => cases hq; exact mv_mw198
  | 7, _, hq => cases hq; exact mv_mw199
  | 8, _, hq => cases hq; exact mv_mw200
  | 9, _, hq => cases hq; exact mv_mw201
  | 10, _, hq => cases hq; exact mv_mw202
  | 11, _, hq => cases hq; exact mv_mw203
  | 12, _, hq => cases hq; exact mv_mw204
  | 13, _, hq => cases hq; exact mv_mw205
  | 14, _, hq => cases hq; exact mv_mw206
  | 15, _, hq => cases hq; exact mv_mw207
  | 16, _, hq => cases hq; exact mv_mw208
  | 17, _, hq => cases hq; exact mv_mw209
  | 18, _, hq => cases hq; exact mv_mw210
  | 19, _, hq => cases hq; exact mv_mw211
  | 20, _, hq => cases hq; exact mv_mw212
  | 21, _, hq => cases hq; exact mv_mw213
  | 22, _, hq => cases hq; exact mv_mw214
  | 23, _, hq => cases hq; exact mv_mw215
  | 24, _, hq => cases hq; exact mv_mw216
  | 25, _, hq => cases hq; exact mv_mw217
  | 26, _, hq => cases hq; exact mv_mw218
  | 27, _, hq => cases hq; exact mv_mw219
  | 28, _, hq => cases hq; exact mv_mw220
  | 29, _, hq => cases hq; exact mv_mw221
  | 30, _, hq => cases hq; exact mv_mw222
  | 31, _, hq => cases hq; exact mv_mw223
theorem mv_mwk_7 (i : Nat) (hi : i < 32) : ∀ q, mv_mc_7[i]? = some q → mv_mW (224 + i) q.1 := by
  intro q hq
  match i, hi, hq with
  | 0, _, hq => cases hq; exact mv_mw224
  | 1, _, hq => cases hq; exact mv_mw225
  | 2, _, hq => cases hq; exact mv_mw226
  | 3, _, hq => cases hq; exact mv_mw227
  | 4, _, hq => cases hq; exact mv_mw228
  | 5, _, hq => cases hq; exact mv_mw229
  | 6, _, hq => cases hq; exact mv_mw230
  | 7, _, hq => cases hq; exact mv_mw231
  | 8, _, hq => cases hq; exact mv_mw232
  | 9, _, hq => cases hq; exact mv_mw233
  | 10, _, hq => cases hq; exact mv_mw234
  | 11, _, hq => cases hq; exact mv_mw235
  | 12, _, hq => cases hq; exact mv_mw236
  | 13, _, hq => cases hq; exact mv_mw237
  | 14, _, hq => cases hq; exact mv_mw238
  | 15, _, hq => cases hq; exact mv_mw239
  | 16, _, hq => cases hq; exact mv_mw240
  | 17, _, hq => cases hq; exact mv_mw241
  | 18, _, hq => cases hq; exact mv_mw242
  | 19, _, hq => cases hq; exact mv_mw243
  | 20, _, hq => cases hq; exact mv_mw244
  | 21, _, hq => cases hq; exact mv_mw245
  | 22, _, hq => cases hq; exact mv_mw246
  | 23, _, hq => cases hq; exact mv_mw247
  | 24, _, hq => cases hq; exact mv_mw248
  | 25, _, hq => cases hq; exact mv_mw249
  | 26, _, hq => cases hq; exact mv_mw250
  | 27, _, hq => cases hq; exact mv_mw251
  | 28, _, hq => cases hq; exact mv_mw252
  | 29, _, hq => cases hq; exact mv_mw253
  | 30, _, hq => cases hq; exact mv_mw254
  | 31, _, hq => cases hq; exact mv_mw255
theorem mv_mw_all (j : Nat) (hj : j < 256) : ∀ q, mv_mc[j]? = some q → mv_mW j q.1 := by
  intro q hq
  rw [mv_mc_app] at hq
  by_cases h0 : j < 32
  · rw [List.getElem?_append_left (show j < mv_mc_0.length from h0)] at hq
    have h9 := mv_mwk_0 j h0 q hq
    rw [show 0 + j = j by omega] at h9
    exact h9
  rw [List.getElem?_append_right (show mv_mc_0.length ≤ j by show 32 ≤ j; omega), show j - mv_mc_0.length = j - 32 from rfl] at hq
  by_cases h1 : j < 64
  · rw [List.getElem?_append_left (show j - 32 < mv_mc_1.length by show j - 32 < 32; omega)] at hq
    have h9 := mv_mwk_1 (j - 32) (by omega) q hq
    rw [show 32 + (j - 32) = j by omega] at h9
    exact h9
  rw [List.getElem?_append_right (show mv_mc_1.length ≤ j - 32 by show 32 ≤ j - 32; omega), show j - 32 - mv_mc_1.length = j - 64 by show j - 32 - 32 = _; omega] at hq
  by_cases h2 : j < 96
  · rw [List.getElem?_append_left (show j - 64 < mv_mc_2.length by show j - 64 < 32; omega)] at hq
    have h9 := mv_mwk_2 (j - 64) (by omega) q hq
    rw [show 64 + (j - 64) = j by omega] at h9
    exact h9
  rw [List.getElem?_append_right (show mv_mc_2.length ≤ j - 64 by show 32 ≤ j - 64; omega), show j - 64 - mv_mc_2.length = j - 96 by show j - 64 - 32 = _; omega] at hq
  by_cases h3 : j < 128
  · rw [List.getElem?_append_left (show j - 96 < mv_mc_3.length by show j - 96 < 32; omega)] at hq
    have h9 := mv_mwk_3 (j - 96) (by omega) q hq
    rw [show 96 + (j - 96) = j by omega] at h9
    exact h9
  rw [List.getElem?_append_right (show mv_mc_3.length ≤ j - 96 by show 32 ≤ j - 96; omega), show j - 96 - mv_mc_3.length = j - 128 by show j - 96 - 32 = _; omega] at hq
  by_cases h4 : j < 160
  · rw [List.getElem?_append_left (show j - 128 < mv_mc_4.length by show j - 128 < 32; omega)] at hq
    have h9 := mv_mwk_4 (j - 128) (by omega) q hq
    rw [show 128 + (j - 128) = j by omega] at h9
    exact h9
  rw [List.getElem?_append_right (show mv_mc_4.length ≤ j - 128 by show 32 ≤ j - 128; omega), show j - 128 - mv_mc_4.length = j - 160 by show j - 128 - 32 = _; omega] at hq
  by_cases h5 : j < 192
  · rw [List.getElem?_append_left (show j - 160 < mv_mc_5.length by show j - 160 < 32; omega)] at hq
    have h9 := mv_mwk_5 (j - 160) (by omega) q hq
    rw [show 160 + (j - 160) = j by omega] at h9
    exact h9
  rw [List.getElem?_append_right (show mv_mc_5.length ≤ j - 160 by show 32 ≤ j - 160; omega), show j - 160 - mv_mc_5.length = j - 192 by show j - 160 - 32 = _; omega] at hq
  by_cases h6 : j < 224
  · rw [List.getElem?_append_left (show j - 192 < mv_mc_6.length by show j - 192 < 32; omega)] at hq
    have h9 := mv_mwk_6 (j - 192) (by omega) q hq
    rw [show 192 + (j - 192) = j by omega] at h9
    exact h9
  rw [List.getElem?_append_right (show mv_mc_6.length ≤ j - 192 by show 32 ≤ j - 192; omega), show j - 192 - mv_mc_6.length = j - 224 by show j - 192 - 32 = _; omega] at hq
  by_cases h7 : j < 256
  · rw [List.getElem?_append_left (show j - 224 < mv_mc_7.length by show j - 224 < 32; omega)] at hq
    have h9 := mv_mwk_7 (j - 224) (by omega) q hq
    rw [show 224 + (j - 224) = j by omega] at h9
    exact h9
  rw [List.getElem?_append_right (show mv_mc_7.length ≤ j - 224 by show 32 ≤ j - 224; omega), show j - 224 - mv_mc_7.length = j - 256 by show j - 224 - 32 = _; omega] at hq
  omega
