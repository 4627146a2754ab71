/-! decode rows of the law -/
theorem d_Law_law_1762 : decode code 1762 = .ok (.iaload, 1) := by decide +kernel
theorem d_Law_law_1763 : decode code 1763 = .ok (.aload_n 0, 1) := by decide +kernel
theorem d_Law_law_1764 : decode code 1764 = .ok (.iload 4, 2) := by decide +kernel
theorem d_Law_law_1766 : decode code 1766 = .ok (.iconst 2, 1) := by decide +kernel
theorem d_Law_law_1767 : decode code 1767 = .ok (.iadd, 1) := by decide +kernel
theorem d_Law_law_1768 : decode code 1768 = .ok (.iaload, 1) := by decide +kernel
theorem d_Law_law_1769 : decode code 1769 = .ok (.invokevirtual 198, 3) := by decide +kernel
theorem d_Law_law_1772 : decode code 1772 = .ok (.lstore 6, 2) := by decide +kernel
theorem d_Law_law_1774 : decode code 1774 = .ok (.aload_n 2, 1) := by decide +kernel
theorem d_Law_law_1775 : decode code 1775 = .ok (.invokevirtual 132, 3) := by decide +kernel
theorem d_Law_law_1778 : decode code 1778 = .ok (.iload 5, 2) := by decide +kernel
theorem d_Law_law_1780 : decode code 1780 = .ok (.if_icmp .eq 5, 3) := by decide +kernel
theorem d_Law_law_1785 : decode code 1785 = .ok (.iload 5, 2) := by decide +kernel
theorem d_Law_law_1787 : decode code 1787 = .ok (.ifCond .ne 14, 3) := by decide +kernel
theorem d_Law_law_1790 : decode code 1790 = .ok (.aload_n 3, 1) := by decide +kernel
theorem d_Law_law_1791 : decode code 1791 = .ok (.iconst 0, 1) := by decide +kernel
theorem d_Law_law_1792 : decode code 1792 = .ok (.laload, 1) := by decide +kernel
theorem d_Law_law_1793 : decode code 1793 = .ok (.lload 6, 2) := by decide +kernel
theorem d_Law_law_1795 : decode code 1795 = .ok (.lcmp, 1) := by decide +kernel
theorem d_Law_law_1796 : decode code 1796 = .ok (.ifCond .eq 5, 3) := by decide +kernel
theorem d_Law_law_1801 : decode code 1801 = .ok (.goto 716, 3) := by decide +kernel
theorem d_Law_law_1804 : decode code 1804 = .ok (.aload_n 1, 1) := by decide +kernel
theorem d_Law_law_1805 : decode code 1805 = .ok (.aload_n 0, 1) := by decide +kernel
theorem d_Law_law_1806 : decode code 1806 = .ok (.iload 4, 2) := by decide +kernel
theorem d_Law_law_1808 : decode code 1808 = .ok (.iconst 1, 1) := by decide +kernel
theorem d_Law_law_1809 : decode code 1809 = .ok (.iadd, 1) := by decide +kernel
theorem d_Law_law_1810 : decode code 1810 = .ok (.iaload, 1) := by decide +kernel
theorem d_Law_law_1811 : decode code 1811 = .ok (.aload_n 3, 1) := by decide +kernel
theorem d_Law_law_1812 : decode code 1812 = .ok (.invokestatic 199, 3) := by decide +kernel
theorem d_Law_law_1815 : decode code 1815 = .ok (.istore 5, 2) := by decide +kernel
theorem d_Law_law_1817 : decode code 1817 = .ok (.aload_n 2, 1) := by decide +kernel
theorem d_Law_law_1818 : decode code 1818 = .ok (.aload_n 0, 1) := by decide +kernel
theorem d_Law_law_1819 : decode code 1819 = .ok (.iload 4, 2) := by decide +kernel
theorem d_Law_law_1821 : decode code 1821 = .ok (.iconst 1, 1) := by decide +kernel
theorem d_Law_law_1822 : decode code 1822 = .ok (.iadd, 1) := by decide +kernel
theorem d_Law_law_1823 : decode code 1823 = .ok (.iaload, 1) := by decide +kernel
theorem d_Law_law_1824 : decode code 1824 = .ok (.invokevirtual 201, 3) := by decide +kernel
theorem d_Law_law_1827 : decode code 1827 = .ok (.istore 6, 2) := by decide +kernel
theorem d_Law_law_1829 : decode code 1829 = .ok (.aload_n 2, 1) := by decide +kernel
theorem d_Law_law_1830 : decode code 1830 = .ok (.invokevirtual 132, 3) := by decide +kernel
theorem d_Law_law_1833 : decode code 1833 = .ok (.iload 5, 2) := by decide +kernel
theorem d_Law_law_1835 : decode code 1835 = .ok (.if_icmp .eq 5, 3) := by decide +kernel
theorem d_Law_law_1840 : decode code 1840 = .ok (.iload 5, 2) := by decide +kernel
theorem d_Law_law_1842 : decode code 1842 = .ok (.ifCond .ne 15, 3) := by decide +kernel
theorem d_Law_law_1845 : decode code 1845 = .ok (.aload_n 3, 1) := by decide +kernel
theorem d_Law_law_1846 : decode code 1846 = .ok (.iconst 0, 1) := by decide +kernel
theorem d_Law_law_1847 : decode code 1847 = .ok (.laload, 1) := by decide +kernel
theorem d_Law_law_1848 : decode code 1848 = .ok (.iload 6, 2) := by decide +kernel
theorem d_Law_law_1850 : decode code 1850 = .ok (.i2l, 1) := by decide +kernel
theorem d_Law_law_1851 : decode code 1851 = .ok (.lcmp, 1) := by decide +kernel
theorem d_Law_law_1852 : decode code 1852 = .ok (.ifCond .eq 5, 3) := by decide +kernel
theorem d_Law_law_1857 : decode code 1857 = .ok (.goto 660, 3) := by decide +kernel
theorem d_Law_law_1860 : decode code 1860 = .ok (.aload_n 1, 1) := by decide +kernel
theorem d_Law_law_1861 : decode code 1861 = .ok (.aload_n 0, 1) := by decide +kernel
theorem d_Law_law_1862 : decode code 1862 = .ok (.iload 4, 2) := by decide +kernel
theorem d_Law_law_1864 : decode code 1864 = .ok (.iconst 1, 1) := by decide +kernel
theorem d_Law_law_1865 : decode code 1865 = .ok (.iadd, 1) := by decide +kernel
theorem d_Law_law_1866 : decode code 1866 = .ok (.iaload, 1) := by decide +kernel
theorem d_Law_law_1867 : decode code 1867 = .ok (.aload_n 0, 1) := by decide +kernel
theorem d_Law_law_1868 : decode code 1868 = .ok (.iload 4, 2) := by decide +kernel
theorem d_Law_law_1870 : decode code 1870 = .ok (.iconst 2, 1) := by decide +kernel
theorem d_Law_law_1871 : decode code 1871 = .ok (.iadd, 1) := by decide +kernel
theorem d_Law_law_1872 : decode code 1872 = .ok (.iaload, 1) := by decide +kernel
theorem d_Law_law_1873 : decode code 1873 = .ok (.aload_n 3, 1) := by decide +kernel
theorem d_Law_law_1874 : decode code 1874 = .ok (.invokestatic 202, 3) := by decide +kernel
theorem d_Law_law_1877 : decode code 1877 = .ok (.istore 5, 2) := by decide +kernel
theorem d_Law_law_1879 : decode code 1879 = .ok (.aload_n 2, 1) := by decide +kernel
theorem d_Law_law_1880 : decode code 1880 = .ok (.aload_n 0, 1) := by decide +kernel
theorem d_Law_law_1881 : decode code 1881 = .ok (.iload 4, 2) := by decide +kernel
theorem d_Law_law_1883 : decode code 1883 = .ok (.iconst 1, 1) := by decide +kernel
theorem d_Law_law_1884 : decode code 1884 = .ok (.iadd, 1) := by decide +kernel
theorem d_Law_law_1885 : decode code 1885 = .ok (.iaload, 1) := by decide +kernel
theorem d_Law_law_1886 : decode code 1886 = .ok (.aload_n 0, 1) := by decide +kernel
theorem d_Law_law_1887 : decode code 1887 = .ok (.iload 4, 2) := by decide +kernel
theorem d_Law_law_1889 : decode code 1889 = .ok (.iconst 2, 1) := by decide +kernel
theorem d_Law_law_1890 : decode code 1890 = .ok (.iadd, 1) := by decide +kernel
theorem d_Law_law_1891 : decode code 1891 = .ok (.iaload, 1) := by decide +kernel
theorem d_Law_law_1892 : decode code 1892 = .ok (.invokevirtual 204, 3) := by decide +kernel
theorem d_Law_law_1895 : decode code 1895 = .ok (.istore 6, 2) := by decide +kernel
theorem d_Law_law_1897 : decode code 1897 = .ok (.aload_n 2, 1) := by decide +kernel
theorem d_Law_law_1898 : decode code 1898 = .ok (.invokevirtual 132, 3) := by decide +kernel
theorem d_Law_law_1901 : decode code 1901 = .ok (.iload 5, 2) := by decide +kernel
theorem d_Law_law_1903 : decode code 1903 = .ok (.if_icmp .eq 5, 3) := by decide +kernel
theorem d_Law_law_1908 : decode code 1908 = .ok (.iload 5, 2) := by decide +kernel
theorem d_Law_law_1910 : decode code 1910 = .ok (.ifCond .ne 15, 3) := by decide +kernel
theorem d_Law_law_1913 : decode code 1913 = .ok (.aload_n 3, 1) := by decide +kernel
theorem d_Law_law_1914 : decode code 1914 = .ok (.iconst 0, 1) := by decide +kernel
theorem d_Law_law_1915 : decode code 1915 = .ok (.laload, 1) := by decide +kernel
theorem d_Law_law_1916 : decode code 1916 = .ok (.iload 6, 2) := by decide +kernel
theorem d_Law_law_1918 : decode code 1918 = .ok (.i2l, 1) := by decide +kernel
theorem d_Law_law_1919 : decode code 1919 = .ok (.lcmp, 1) := by decide +kernel
theorem d_Law_law_1920 : decode code 1920 = .ok (.ifCond .eq 5, 3) := by decide +kernel
theorem d_Law_law_1925 : decode code 1925 = .ok (.goto 592, 3) := by decide +kernel
theorem d_Law_law_1928 : decode code 1928 = .ok (.aload_n 1, 1) := by decide +kernel
theorem d_Law_law_1929 : decode code 1929 = .ok (.aload_n 0, 1) := by decide +kernel
theorem d_Law_law_1930 : decode code 1930 = .ok (.iload 4, 2) := by decide +kernel
theorem d_Law_law_1932 : decode code 1932 = .ok (.iconst 1, 1) := by decide +kernel
theorem d_Law_law_1933 : decode code 1933 = .ok (.iadd, 1) := by decide +kernel
theorem d_Law_law_1934 : decode code 1934 = .ok (.iaload, 1) := by decide +kernel
theorem d_Law_law_1935 : decode code 1935 = .ok (.aload_n 0, 1) := by decide +kernel
theorem d_Law_law_1936 : decode code 1936 = .ok (.iload 4, 2) := by decide +kernel
theorem d_Law_law_1938 : decode code 1938 = .ok (.iconst 2, 1) := by decide +kernel
theorem d_Law_law_1939 : decode code 1939 = .ok (.iadd, 1) := by decide +kernel
theorem d_Law_law_1940 : decode code 1940 = .ok (.iaload, 1) := by decide +kernel
theorem d_Law_law_1941 : decode code 1941 = .ok (.aload_n 0, 1) := by decide +kernel
theorem d_Law_law_1942 : decode code 1942 = .ok (.iload 4, 2) := by decide +kernel
theorem d_Law_law_1944 : decode code 1944 = .ok (.iconst 3, 1) := by decide +kernel
theorem d_Law_law_1945 : decode code 1945 = .ok (.iadd, 1) := by decide +kernel
theorem d_Law_law_1946 : decode code 1946 = .ok (.iaload, 1) := by decide +kernel
theorem d_Law_law_1947 : decode code 1947 = .ok (.ifCond .eq 7, 3) := by decide +kernel
theorem d_Law_law_1950 : decode code 1950 = .ok (.iconst 1, 1) := by decide +kernel
theorem d_Law_law_1951 : decode code 1951 = .ok (.goto 4, 3) := by decide +kernel
theorem d_Law_law_1954 : decode code 1954 = .ok (.iconst 0, 1) := by decide +kernel
theorem d_Law_law_1955 : decode code 1955 = .ok (.aload_n 3, 1) := by decide +kernel
theorem d_Law_law_1956 : decode code 1956 = .ok (.invokestatic 205, 3) := by decide +kernel
theorem d_Law_law_1959 : decode code 1959 = .ok (.istore 5, 2) := by decide +kernel
theorem d_Law_law_1961 : decode code 1961 = .ok (.aload_n 2, 1) := by decide +kernel
theorem d_Law_law_1962 : decode code 1962 = .ok (.aload_n 0, 1) := by decide +kernel
theorem d_Law_law_1963 : decode code 1963 = .ok (.iload 4, 2) := by decide +kernel
theorem d_Law_law_1965 : decode code 1965 = .ok (.iconst 1, 1) := by decide +kernel
theorem d_Law_law_1966 : decode code 1966 = .ok (.iadd, 1) := by decide +kernel
theorem d_Law_law_1967 : decode code 1967 = .ok (.iaload, 1) := by decide +kernel
theorem d_Law_law_1968 : decode code 1968 = .ok (.aload_n 0, 1) := by decide +kernel
theorem d_Law_law_1969 : decode code 1969 = .ok (.iload 4, 2) := by decide +kernel
theorem d_Law_law_1971 : decode code 1971 = .ok (.iconst 2, 1) := by decide +kernel
theorem d_Law_law_1972 : decode code 1972 = .ok (.iadd, 1) := by decide +kernel
theorem d_Law_law_1973 : decode code 1973 = .ok (.iaload, 1) := by decide +kernel
theorem d_Law_law_1974 : decode code 1974 = .ok (.aload_n 0, 1) := by decide +kernel
theorem d_Law_law_1975 : decode code 1975 = .ok (.iload 4, 2) := by decide +kernel
theorem d_Law_law_1977 : decode code 1977 = .ok (.iconst 3, 1) := by decide +kernel
theorem d_Law_law_1978 : decode code 1978 = .ok (.iadd, 1) := by decide +kernel
theorem d_Law_law_1979 : decode code 1979 = .ok (.iaload, 1) := by decide +kernel
theorem d_Law_law_1980 : decode code 1980 = .ok (.ifCond .eq 7, 3) := by decide +kernel
theorem d_Law_law_1983 : decode code 1983 = .ok (.iconst 1, 1) := by decide +kernel
theorem d_Law_law_1984 : decode code 1984 = .ok (.goto 4, 3) := by decide +kernel
theorem d_Law_law_1987 : decode code 1987 = .ok (.iconst 0, 1) := by decide +kernel
theorem d_Law_law_1988 : decode code 1988 = .ok (.invokevirtual 207, 3) := by decide +kernel
theorem d_Law_law_1991 : decode code 1991 = .ok (.lstore 6, 2) := by decide +kernel
theorem d_Law_law_1993 : decode code 1993 = .ok (.aload_n 2, 1) := by decide +kernel
theorem d_Law_law_1994 : decode code 1994 = .ok (.invokevirtual 132, 3) := by decide +kernel
theorem d_Law_law_1997 : decode code 1997 = .ok (.iload 5, 2) := by decide +kernel
theorem d_Law_law_1999 : decode code 1999 = .ok (.if_icmp .eq 5, 3) := by decide +kernel
theorem d_Law_law_2004 : decode code 2004 = .ok (.iload 5, 2) := by decide +kernel
theorem d_Law_law_2006 : decode code 2006 = .ok (.ifCond .ne 14, 3) := by decide +kernel
theorem d_Law_law_2009 : decode code 2009 = .ok (.aload_n 3, 1) := by decide +kernel
theorem d_Law_law_2010 : decode code 2010 = .ok (.iconst 0, 1) := by decide +kernel
theorem d_Law_law_2011 : decode code 2011 = .ok (.laload, 1) := by decide +kernel
theorem d_Law_law_2012 : decode code 2012 = .ok (.lload 6, 2) := by decide +kernel
theorem d_Law_law_2014 : decode code 2014 = .ok (.lcmp, 1) := by decide +kernel
theorem d_Law_law_2015 : decode code 2015 = .ok (.ifCond .eq 5, 3) := by decide +kernel
theorem d_Law_law_2020 : decode code 2020 = .ok (.goto 497, 3) := by decide +kernel
theorem d_Law_law_2023 : decode code 2023 = .ok (.aload_n 1, 1) := by decide +kernel
theorem d_Law_law_2024 : decode code 2024 = .ok (.aload_n 0, 1) := by decide +kernel
theorem d_Law_law_2025 : decode code 2025 = .ok (.iload 4, 2) := by decide +kernel
theorem d_Law_law_2027 : decode code 2027 = .ok (.iconst 1, 1) := by decide +kernel
theorem d_Law_law_2028 : decode code 2028 = .ok (.iadd, 1) := by decide +kernel
theorem d_Law_law_2029 : decode code 2029 = .ok (.iaload, 1) := by decide +kernel
theorem d_Law_law_2030 : decode code 2030 = .ok (.aload_n 0, 1) := by decide +kernel
theorem d_Law_law_2031 : decode code 2031 = .ok (.iload 4, 2) := by decide +kernel
theorem d_Law_law_2033 : decode code 2033 = .ok (.iconst 2, 1) := by decide +kernel
theorem d_Law_law_2034 : decode code 2034 = .ok (.iadd, 1) := by decide +kernel
theorem d_Law_law_2035 : decode code 2035 = .ok (.iaload, 1) := by decide +kernel
theorem d_Law_law_2036 : decode code 2036 = .ok (.aload_n 3, 1) := by decide +kernel
theorem d_Law_law_2037 : decode code 2037 = .ok (.invokestatic 208, 3) := by decide +kernel
theorem d_Law_law_2040 : decode code 2040 = .ok (.istore 5, 2) := by decide +kernel
theorem d_Law_law_2042 : decode code 2042 = .ok (.aload_n 2, 1) := by decide +kernel
theorem d_Law_law_2043 : decode code 2043 = .ok (.aload_n 0, 1) := by decide +kernel
theorem d_Law_law_2044 : decode code 2044 = .ok (.iload 4, 2) := by decide +kernel
theorem d_Law_law_2046 : decode code 2046 = .ok (.iconst 1, 1) := by decide +kernel
theorem d_Law_law_2047 : decode code 2047 = .ok (.iadd, 1) := by decide +kernel
theorem d_Law_law_2048 : decode code 2048 = .ok (.iaload, 1) := by decide +kernel
theorem d_Law_law_2049 : decode code 2049 = .ok (.aload_n 0, 1) := by decide +kernel
theorem d_Law_law_2050 : decode code 2050 = .ok (.iload 4, 2) := by decide +kernel
theorem d_Law_law_2052 : decode code 2052 = .ok (.iconst 2, 1) := by decide +kernel
theorem d_Law_law_2053 : decode code 2053 = .ok (.iadd, 1) := by decide +kernel
theorem d_Law_law_2054 : decode code 2054 = .ok (.iaload, 1) := by decide +kernel
theorem d_Law_law_2055 : decode code 2055 = .ok (.invokevirtual 210, 3) := by decide +kernel
theorem d_Law_law_2058 : decode code 2058 = .ok (.istore 6, 2) := by decide +kernel
theorem d_Law_law_2060 : decode code 2060 = .ok (.aload_n 2, 1) := by decide +kernel
theorem d_Law_law_2061 : decode code 2061 = .ok (.invokevirtual 132, 3) := by decide +kernel
theorem d_Law_law_2064 : decode code 2064 = .ok (.iload 5, 2) := by decide +kernel
theorem d_Law_law_2066 : decode code 2066 = .ok (.if_icmp .eq 5, 3) := by decide +kernel
theorem d_Law_law_2071 : decode code 2071 = .ok (.iload 5, 2) := by decide +kernel
theorem d_Law_law_2073 : decode code 2073 = .ok (.ifCond .ne 15, 3) := by decide +kernel
theorem d_Law_law_2076 : decode code 2076 = .ok (.aload_n 3, 1) := by decide +kernel
theorem d_Law_law_2077 : decode code 2077 = .ok (.iconst 0, 1) := by decide +kernel
theorem d_Law_law_2078 : decode code 2078 = .ok (.laload, 1) := by decide +kernel
theorem d_Law_law_2079 : decode code 2079 = .ok (.iload 6, 2) := by decide +kernel
theorem d_Law_law_2081 : decode code 2081 = .ok (.i2l, 1) := by decide +kernel
theorem d_Law_law_2082 : decode code 2082 = .ok (.lcmp, 1) := by decide +kernel
theorem d_Law_law_2083 : decode code 2083 = .ok (.ifCond .eq 5, 3) := by decide +kernel
theorem d_Law_law_2088 : decode code 2088 = .ok (.goto 429, 3) := by decide +kernel
theorem d_Law_law_2091 : decode code 2091 = .ok (.aload_n 1, 1) := by decide +kernel
theorem d_Law_law_2092 : decode code 2092 = .ok (.aload_n 0, 1) := by decide +kernel
theorem d_Law_law_2093 : decode code 2093 = .ok (.iload 4, 2) := by decide +kernel
theorem d_Law_law_2095 : decode code 2095 = .ok (.iconst 1, 1) := by decide +kernel
theorem d_Law_law_2096 : decode code 2096 = .ok (.iadd, 1) := by decide +kernel
theorem d_Law_law_2097 : decode code 2097 = .ok (.iaload, 1) := by decide +kernel
theorem d_Law_law_2098 : decode code 2098 = .ok (.aload_n 3, 1) := by decide +kernel
theorem d_Law_law_2099 : decode code 2099 = .ok (.invokestatic 211, 3) := by decide +kernel
theorem d_Law_law_2102 : decode code 2102 = .ok (.istore 5, 2) := by decide +kernel
theorem d_Law_law_2104 : decode code 2104 = .ok (.aload_n 2, 1) := by decide +kernel
theorem d_Law_law_2105 : decode code 2105 = .ok (.aload_n 0, 1) := by decide +kernel
theorem d_Law_law_2106 : decode code 2106 = .ok (.iload 4, 2) := by decide +kernel
theorem d_Law_law_2108 : decode code 2108 = .ok (.iconst 1, 1) := by decide +kernel
theorem d_Law_law_2109 : decode code 2109 = .ok (.iadd, 1) := by decide +kernel
theorem d_Law_law_2110 : decode code 2110 = .ok (.iaload, 1) := by decide +kernel
theorem d_Law_law_2111 : decode code 2111 = .ok (.invokevirtual 213, 3) := by decide +kernel
theorem d_Law_law_2114 : decode code 2114 = .ok (.istore 6, 2) := by decide +kernel
theorem d_Law_law_2116 : decode code 2116 = .ok (.aload_n 2, 1) := by decide +kernel
theorem d_Law_law_2117 : decode code 2117 = .ok (.invokevirtual 132, 3) := by decide +kernel
theorem d_Law_law_2120 : decode code 2120 = .ok (.iload 5, 2) := by decide +kernel
theorem d_Law_law_2122 : decode code 2122 = .ok (.if_icmp .eq 5, 3) := by decide +kernel
theorem d_Law_law_2127 : decode code 2127 = .ok (.iload 5, 2) := by decide +kernel
theorem d_Law_law_2129 : decode code 2129 = .ok (.ifCond .ne 15, 3) := by decide +kernel
theorem d_Law_law_2132 : decode code 2132 = .ok (.aload_n 3, 1) := by decide +kernel
theorem d_Law_law_2133 : decode code 2133 = .ok (.iconst 0, 1) := by decide +kernel
theorem d_Law_law_2134 : decode code 2134 = .ok (.laload, 1) := by decide +kernel
theorem d_Law_law_2135 : decode code 2135 = .ok (.iload 6, 2) := by decide +kernel
theorem d_Law_law_2137 : decode code 2137 = .ok (.i2l, 1) := by decide +kernel
theorem d_Law_law_2138 : decode code 2138 = .ok (.lcmp, 1) := by decide +kernel
theorem d_Law_law_2139 : decode code 2139 = .ok (.ifCond .eq 5, 3) := by decide +kernel
theorem d_Law_law_2144 : decode code 2144 = .ok (.goto 373, 3) := by decide +kernel
theorem d_Law_law_2147 : decode code 2147 = .ok (.aload_n 1, 1) := by decide +kernel
theorem d_Law_law_2148 : decode code 2148 = .ok (.aload_n 0, 1) := by decide +kernel
theorem d_Law_law_2149 : decode code 2149 = .ok (.iload 4, 2) := by decide +kernel
theorem d_Law_law_2151 : decode code 2151 = .ok (.iconst 1, 1) := by decide +kernel
theorem d_Law_law_2152 : decode code 2152 = .ok (.iadd, 1) := by decide +kernel
theorem d_Law_law_2153 : decode code 2153 = .ok (.iaload, 1) := by decide +kernel
theorem d_Law_law_2154 : decode code 2154 = .ok (.aload_n 3, 1) := by decide +kernel
theorem d_Law_law_2155 : decode code 2155 = .ok (.invokestatic 214, 3) := by decide +kernel
theorem d_Law_law_2158 : decode code 2158 = .ok (.istore 5, 2) := by decide +kernel
theorem d_Law_law_2160 : decode code 2160 = .ok (.aload_n 2, 1) := by decide +kernel
theorem d_Law_law_2161 : decode code 2161 = .ok (.aload_n 0, 1) := by decide +kernel
theorem d_Law_law_2162 : decode code 2162 = .ok (.iload 4, 2) := by decide +kernel
theorem d_Law_law_2164 : decode code 2164 = .ok (.iconst 1, 1) := by decide +kernel
theorem d_Law_law_2165 : decode code 2165 = .ok (.iadd, 1) := by decide +kernel
theorem d_Law_law_2166 : decode code 2166 = .ok (.iaload, 1) := by decide +kernel
theorem d_Law_law_2167 : decode code 2167 = .ok (.invokevirtual 216, 3) := by decide +kernel
theorem d_Law_law_2170 : decode code 2170 = .ok (.istore 6, 2) := by decide +kernel
theorem d_Law_law_2172 : decode code 2172 = .ok (.aload_n 2, 1) := by decide +kernel
theorem d_Law_law_2173 : decode code 2173 = .ok (.invokevirtual 132, 3) := by decide +kernel
theorem d_Law_law_2176 : decode code 2176 = .ok (.iload 5, 2) := by decide +kernel
theorem d_Law_law_2178 : decode code 2178 = .ok (.if_icmp .eq 5, 3) := by decide +kernel
theorem d_Law_law_2183 : decode code 2183 = .ok (.iload 5, 2) := by decide +kernel
theorem d_Law_law_2185 : decode code 2185 = .ok (.ifCond .ne 22, 3) := by decide +kernel
theorem d_Law_law_2188 : decode code 2188 = .ok (.aload_n 3, 1) := by decide +kernel
theorem d_Law_law_2189 : decode code 2189 = .ok (.iconst 0, 1) := by decide +kernel
theorem d_Law_law_2190 : decode code 2190 = .ok (.laload, 1) := by decide +kernel
theorem d_Law_law_2191 : decode code 2191 = .ok (.iload 6, 2) := by decide +kernel
