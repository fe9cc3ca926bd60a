/** All that an object tells of its state, as one text. */
final class Told {
    /** How many calls it takes: an object is good for 512. */
    static final int CALLS = 1 + 8 + 3 + 2 + 8 + 12 * (1 + 8 + 4 + 4);

    private Told() {
    }

    static String of(GallopingRing x) {
        StringBuilder told = new StringBuilder();
        told.append("digest ").append(x.digest()).append(" counts");
        for (int what = 0; what < 8; what++) {
            told.append(' ').append(x.count(what));
        }
        told.append(" shake ").append(x.shake()).append(" rising ").append(x.rising()).append(" may ").append(x.may());
        told.append(" earns ").append(x.earns()).append(" swaps ").append(x.swaps()).append(" round");
        for (int k = 0; k < 8; k++) {
            told.append(' ').append(x.round(k));
        }
        for (int p = 0; p < 12; p++) {
            told.append(" place ").append(p).append(':').append(x.rider(p));
            for (int k = 0; k < 8; k++) {
                told.append(' ').append(x.sample(p, k));
            }
            for (int leg = 0; leg < 4; leg++) {
                told.append(' ').append(x.mark(p, leg)).append('/').append(x.find(p, leg));
            }
        }
        return told.toString();
    }
}
