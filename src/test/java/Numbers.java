/**
 * Numbers outside a range: its neighbours, those that a byte or a char would wrap into it, and the
 * extremes of the int range.
 */
final class Numbers {
    private Numbers() {
    }

    static int[] below(int least) {
        return new int[] {least - 1, least - 2, least - 256, least - 65536, Integer.MIN_VALUE + 1, Integer.MIN_VALUE};
    }

    static int[] above(int greatest) {
        return new int[] {greatest + 1, greatest + 2, greatest + 256, greatest + 65536, Integer.MAX_VALUE - 1,
            Integer.MAX_VALUE};
    }

    static int[] outside(int least, int greatest) {
        int[] low = below(least);
        int[] high = above(greatest);
        int[] both = new int[low.length + high.length];
        System.arraycopy(low, 0, both, 0, low.length);
        System.arraycopy(high, 0, both, low.length, high.length);
        return both;
    }
}
