import java.math.BigInteger;

/** Sums and products that wrap around, that are limited, or that only just fit, beside exact numbers. */
final class WrapAroundTest {
    private static final BigInteger MODULUS = BigInteger.ONE.shiftLeft(64);

    public static void main(String[] args) {
        digestOfNothing();
        digestsOfFullGraphs();
        digestsOfDrawnGraphs();
        randomNumbers();
        limitedVertexWeights();
        limitedEdgeWeights();
        greatestCounts();
        negativeCounts();
        greatestColorings();
        greatestWalks();
        greatestDensity();
        Check.finish("WrapAroundTest");
    }

    /** The digest by exact numbers, cut down to a long at the end alone. */
    private static long exactDigest(HomBench x, int textLength, int savedStates) {
        BigInteger hash = next(BigInteger.valueOf(2879), textLength);
        for (int g = 0; g < 4; g++) {
            int size = x.graph(g, 0);
            hash = next(hash, size);
            for (int v = 0; v < size; v++) {
                hash = next(hash, x.vertex(g, v, 0));
            }
            for (int u = 0; u < size; u++) {
                for (int v = u; v < size; v++) {
                    hash = next(hash, x.edge(g, u, v));
                }
            }
            hash = next(hash, x.treewidth(g));
            hash = next(hash, x.automorphisms(g));
            hash = next(hash, x.coreSize(g));
        }
        for (int pair = 0; pair < 16; pair++) {
            hash = next(hash, x.compare(pair / 4, pair % 4));
        }
        hash = next(hash, savedStates);
        Check.due("it wraps around", true, hash.abs().compareTo(MODULUS) > 0);
        return hash.mod(MODULUS).longValue();
    }

    private static BigInteger next(BigInteger hash, long value) {
        return hash.multiply(BigInteger.valueOf(31)).add(BigInteger.valueOf(value));
    }

    private static void digestOfNothing() {
        HomBench x = new HomBench();
        Check.due("digest", exactDigest(x, 0, 0), x.digest());
        x.append(0);
        Check.due("digest with a text", exactDigest(x, 1, 0), x.digest());
        for (int length = 2; length <= 120; length++) {
            x.append(127);
        }
        Check.due("digest with the full text", exactDigest(x, 120, 0), x.digest());
        for (int states = 1; states <= 5; states++) {
            x.setSize(0, 0);
            Check.due("digest with saved states", exactDigest(x, 120, Math.min(states, 4)), x.digest());
        }
        x.clearText();
        Check.due("digest without the text", exactDigest(x, 0, 4), x.digest());
        x.undo();
        Check.due("digest after undo", exactDigest(x, 0, 3), x.digest());
    }

    private static void digestsOfFullGraphs() {
        for (int family = 0; family <= 4; family++) {
            HomBench x = new HomBench();
            for (int g = 0; g < 4; g++) {
                x.make(g, (family + g) % 5, 8 - g % 2);
            }
            x.setVertex(0, 7, -3);
            x.setEdge(3, 6, 6, -2);
            Check.due("digest", exactDigest(x, 0, 4), x.digest());
        }
    }

    private static void digestsOfDrawnGraphs() {
        int negative = 0;
        for (int seed = 1; seed <= 40; seed++) {
            HomBench x = new HomBench();
            x.random(seed % 4, 8, seed, 40);
            x.random(2, 5, 1000 * seed, 60);
            x.random(3, 6, 99 * seed, 80);
            long digest = x.digest();
            Check.due("digest", exactDigest(x, 0, 3), digest);
            negative += digest < 0 ? 1 : 0;
        }
        Check.due("some of them are negative", true, negative > 5 && negative < 35);
    }

    /** The numbers of random are taken modulo 2147483648 from products beyond a long's half. */
    private static void randomNumbers() {
        int[] seeds = {0, 1, 2, 65535, 65536, 123456, 499999, 999998, 999999};
        int[] percents = {0, 1, 2, 25, 49, 50, 51, 75, 98, 99, 100};
        for (int seed : seeds) {
            for (int percent : percents) {
                drawn(seed, percent);
            }
        }
    }

    private static void drawn(int seed, int percent) {
        HomBench x = new HomBench();
        int answer = x.random(0, 8, seed, percent);
        BigInteger s = BigInteger.valueOf(seed);
        int edges = 0;
        for (int u = 0; u < 8; u++) {
            for (int v = 0; v < u; v++) {
                s = s.multiply(BigInteger.valueOf(1103515245)).add(BigInteger.valueOf(12345));
                s = s.mod(BigInteger.valueOf(2147483648L));
                boolean edge = s.shiftRight(16).intValue() % 100 < percent;
                edges += edge ? 1 : 0;
                Check.due("seed " + seed + ", " + percent + " percent: " + u + v, edge ? 1 : 0, x.edge(0, u, v));
                Check.due("the other direction", edge ? 1 : 0, x.edge(0, v, u));
            }
            Check.due("no loop", 0, x.edge(0, u, u));
        }
        Check.due("seed " + seed + ", " + percent + " percent", edges, answer);
    }

    private static int cut(int product, int most) {
        return product > most ? most : product < -most ? -most : product;
    }

    private static void limitedVertexWeights() {
        for (int a = -3; a <= 3; a++) {
            for (int b = -3; b <= 3; b++) {
                HomBench x = new HomBench();
                x.setSize(0, 1);
                x.setVertex(0, 0, a);
                x.setSize(1, 1);
                x.setVertex(1, 0, b);
                for (int kind = 1; kind <= 2; kind++) {
                    x.combine(2, 0, 1, kind);
                    Check.due(a + " * " + b, cut(a * b, 3), x.vertex(2, 0, 0));
                }
                x.combine(2, 0, 1, 0);
                Check.due("a union keeps the weights", a, x.vertex(2, 0, 0));
                Check.due("a union keeps the weights", b, x.vertex(2, 1, 0));
            }
        }
    }

    private static void limitedEdgeWeights() {
        for (int a = -2; a <= 2; a++) {
            for (int b = -2; b <= 2; b++) {
                HomBench x = new HomBench();
                for (int g = 0; g <= 1; g++) {
                    x.setSize(g, 2);
                    x.setEdge(g, 0, 1, g == 0 ? a : b);
                    x.setEdge(g, 1, 1, g == 0 ? b : a);
                }
                x.combine(2, 0, 1, 1);
                // The vertices are 00, 01, 10, 11.
                edges(x, 0, cut(a * b, 2), cut(a * a, 2), cut(b * b, 2), cut(a * b, 2));
                x.combine(2, 0, 1, 2);
                edges(x, b, cut(a * b, 2), a, b, 1);
                Check.due("the loop of the first vertex is 1", 1, x.edge(2, 0, 0));
            }
        }
    }

    private static void edges(HomBench x, int firstStep, int across, int fromFirst, int toLast, int loop) {
        Check.due("01 and 10", across, x.edge(2, 1, 2));
        Check.due("00 and 11", across, x.edge(2, 0, 3));
        Check.due("01 and 11", fromFirst, x.edge(2, 1, 3));
        Check.due("10 and 11", toLast, x.edge(2, 2, 3));
        Check.due("00 and 01", firstStep, x.edge(2, 0, 1));
        Check.due("11", loop, x.edge(2, 3, 3));
    }

    private static HomBench heavy(int weight, int edgeWeight) {
        HomBench x = new HomBench();
        x.make(0, 4, 6);
        x.setSize(1, 8);
        for (int v = 0; v < 8; v++) {
            x.setVertex(1, v, weight);
            for (int u = 0; u <= v; u++) {
                x.setEdge(1, u, v, edgeWeight);
            }
        }
        return x;
    }

    private static long exact(BigInteger number) {
        return number.longValueExact();
    }

    private static BigInteger power(long base, int exponent) {
        return BigInteger.valueOf(base).pow(exponent);
    }

    /** 8 to the sixth maps, of which each has the value 3 to the sixth times 2 to the 21st. */
    private static void greatestCounts() {
        HomBench x = heavy(3, 2);
        BigInteger value = power(3, 6).multiply(power(2, 21));
        Check.due("all maps", exact(value.multiply(power(8, 6))), x.count(0, 1, 1));
        Check.due("injective maps", exact(value.multiply(BigInteger.valueOf(20160))), x.count(0, 1, 3));
        x.derive(1, 1, 2, 63);
        Check.due("maps onto 6", exact(value.multiply(BigInteger.valueOf(720))), x.count(0, 1, 5));
        Check.due("plain counts stay small", 46656, x.count(0, 1, 0));
        x.derive(1, 1, 2, 1);
        Check.due("the value of one map", exact(value), x.count(0, 1, 1));
        Check.due("the value of one map", exact(value), x.count(0, 1, 5));
        Check.due("no injective map", 0, x.count(0, 1, 3));
    }

    private static void negativeCounts() {
        HomBench x = heavy(-3, -2);
        // Six vertices and 21 edges and loops: an odd number of negative factors.
        BigInteger value = power(3, 6).multiply(power(2, 21)).negate();
        Check.due("all maps", exact(value.multiply(power(8, 6))), x.count(0, 1, 1));
        Check.due("injective maps", exact(value.multiply(BigInteger.valueOf(20160))), x.count(0, 1, 3));
        x.setSize(0, 5);
        Check.due("five vertices", -7962624L, x.count(0, 1, 1));
        Check.due("injective", -243L * 6720, x.count(0, 1, 3));
    }

    private static void greatestColorings() {
        HomBench x = new HomBench();
        for (int size = 0; size <= 8; size++) {
            x.setSize(0, size);
            Check.due("without edges", exact(power(20, size)), x.colorings(0, 20));
            x.make(0, 0, size);
            Check.due("a path", size == 0 ? 1 : 20 * exact(power(19, size - 1)), x.colorings(0, 20));
            x.make(0, 1, size);
            if (size >= 3) {
                int sign = size % 2 == 0 ? 1 : -1;
                Check.due("a cycle", exact(power(19, size)) + sign * 19, x.colorings(0, 20));
            }
        }
    }

    private static void greatestWalks() {
        for (int weight = -2; weight <= 2; weight++) {
            HomBench x = heavy(3, weight);
            for (int length = 0; length <= 12; length++) {
                BigInteger weights = power(weight, length);
                Check.due("all walks", exact(weights.multiply(power(8, length + 1))), x.walks(1, length, false));
                BigInteger closed = length == 0 ? BigInteger.valueOf(8) : power(8, length);
                Check.due("closed walks", exact(weights.multiply(closed)), x.walks(1, length, true));
            }
        }
    }

    private static void greatestDensity() {
        HomBench x = new HomBench();
        x.setSize(0, 6);
        x.setSize(1, 8);
        Check.due("all of 262144 maps", 1, x.density(0, 1, 0));
        Check.due("all of 262144 maps", 1, x.density(0, 1, 1));
        x.make(0, 3, 6);
        x.make(1, 2, 8);
        Check.due("7 to the fifth", 16807, x.density(0, 1, 0));
        Check.due("8 to the fifth", 32768, x.density(0, 1, 1));
        x.setSize(1, 7);
        x.setEdge(1, 0, 6, 1);
        // The center goes to 0 or 6, the leaves to the other one.
        Check.due("two maps", 2, x.density(0, 1, 0));
        Check.due("of 117649", 117649, x.density(0, 1, 1));
    }
}
