/** The calls of the class by their names. */
final class Calls {
    private Calls() {
    }

    static long call(SnakeLadders x, String name, int[] a) {
        switch (name) {
            case "board": return x.board(a[0], a[1]);
            case "die": return x.die(a[0]);
            case "link": return x.link(a[0], a[1], a[2]);
            case "player": return x.player(a[0]);
            case "type": return x.type(a[0]);
            case "clear": return x.clear();
            case "read": return x.read();
            case "rolls": return x.rolls(a[0], a[1]);
            case "sets": return x.sets(a[0], a[1]);
            case "undo": return x.undo();
            case "of": return x.of(a[0], a[1]);
            case "about": return x.about(a[0], a[1]);
            case "goes": return x.goes(a[0], a[1]);
            case "few": return x.few(a[0], a[1]);
            case "home": return x.home(a[0], a[1]);
            case "mean": return x.mean(a[0], a[1]);
            case "ahead": return x.ahead(a[0], a[1], a[2]);
            case "rather": return x.rather(a[0], a[1], a[2]);
            case "without": return x.without(a[0], a[1], a[2]);
            case "span": return x.span(a[0], a[1], a[2]);
            default: return callOn(x, name, a);
        }
    }

    private static long callOn(SnakeLadders x, String name, int[] a) {
        switch (name) {
            case "note": return x.note(a[0], a[1], a[2], a[3]);
            case "mark": return x.mark(a[0], a[1], a[2], a[3]);
            case "forget": return x.forget(a[0]);
            case "is": return x.is(a[0]);
            case "look": return x.look(a[0]);
            case "kinds": return x.kinds(a[0]);
            case "ask": return x.ask(a[0]);
            case "choice": return x.choice(a[0], a[1], a[2]);
            case "evenings": return x.evenings(a[0], a[1]);
            case "part": return x.part(a[0]);
            case "image": return x.image(a[0]);
            case "from": return x.from(a[0]);
            case "status": return x.status(a[0]);
            case "count": return x.count(a[0]);
            case "digest": return x.digest();
            default: throw new IllegalArgumentException(name);
        }
    }
}
