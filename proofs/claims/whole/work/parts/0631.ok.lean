theorem am_k30 : (List.range 8).all (fun k => am_okM (279 + k)) = true := by decide +kernel
