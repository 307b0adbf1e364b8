/** Adverts brought to an object in one line. */
final class Adverts {
    private Adverts() {
    }

    /** Begins a draft and adds the entries, three numbers each: router (-1 for a port), net, cost. */
    static void draft(StateBench x, int origin, int number, int... entries) {
        x.begin(origin, number);
        for (int i = 0; i < entries.length; i += 3) {
            x.entry(entries[i], entries[i + 1], entries[i + 2]);
        }
    }

    static int come(StateBench x, int origin, int number, int... entries) {
        draft(x, origin, number, entries);
        return x.come();
    }

    /** The entries of an advert in the base, as "router/net/cost " each. */
    static String entriesOf(StateBench x, int router) {
        StringBuilder text = new StringBuilder();
        for (int k = 0; k < x.entries(router); k++) {
            text.append(x.told(router, k, 0)).append('/').append(x.told(router, k, 1));
            text.append('/').append(x.told(router, k, 2)).append(' ');
        }
        return text.toString();
    }

    /** The first steps of a net, as "net/router " each. */
    static String firstsOf(StateBench x, int net) {
        StringBuilder text = new StringBuilder();
        for (int k = 0; k < x.firsts(net); k++) {
            int step = x.first(net, k);
            text.append(step / 64).append('/').append(step % 64).append(' ');
        }
        return text.toString();
    }
}
