theorem am_k13 : (List.range 7).all (fun k => am_okM (166 + k)) = true := by decide +kernel
