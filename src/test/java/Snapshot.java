/**
 * All that the asking calls of an object answer, as one text. An object that is asked for several of
 * them is used for more than the document's 512 calls; StateBench does not count its calls, so what it
 * answers must hold there too. RefusalTest and ModelTest stay below 512.
 */
final class Snapshot {
    private Snapshot() {
    }

    static String of(StateBench x) {
        StringBuilder text = new StringBuilder();
        text.append("time ").append(x.time()).append(" known ").append(x.known()).append('\n');
        for (int router = 0; router < 64; router++) {
            advert(x, router, text);
        }
        for (int net = 0; net < 64; net++) {
            net(x, net, text);
        }
        return text.toString();
    }

    private static void advert(StateBench x, int router, StringBuilder text) {
        text.append("router ").append(router).append(" number ").append(x.number(router));
        text.append(" age ").append(x.age(router)).append(" distance ").append(x.distance(router));
        text.append(" entries ").append(x.entries(router));
        for (int k = 0; k < x.entries(router); k++) {
            text.append(' ').append(x.told(router, k, 0));
            text.append('/').append(x.told(router, k, 1));
            text.append('/').append(x.told(router, k, 2));
        }
        text.append('\n');
    }

    private static void net(StateBench x, int net, StringBuilder text) {
        text.append("net ").append(net).append(" cost ").append(x.cost(net));
        text.append(" firsts ").append(x.firsts(net));
        for (int k = 0; k < x.firsts(net); k++) {
            text.append(' ').append(x.first(net, k));
        }
        text.append('\n');
    }
}
