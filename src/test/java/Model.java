import java.math.BigInteger;
import java.util.ArrayList;
import java.util.Arrays;
import java.util.List;
import java.util.TreeSet;
import java.util.function.ToIntFunction;

/**
 * The document once more, in the plainest way and without regard to cost: kinds are classes over one
 * another, undo and images are whole copies, rows are all written out and each is thrown from the start.
 * It shares no code with the class, so that a slip in one of them shows in RandomRunsTest.
 */
final class Model {

    // ---- kinds

    static class PlainPlayer {
        int go(int p, int r, int l) {
            return p + r > l ? p : p + r;
        }
    }

    static class Bouncer extends PlainPlayer {
        @Override
        int go(int p, int r, int l) {
            return p + r > l ? 2 * l - p - r : super.go(p, r, l);
        }
    }

    static class Timid extends PlainPlayer {
        @Override
        int go(int p, int r, int l) {
            return r == 6 ? super.go(p, 3, l) : super.go(p, r, l);
        }
    }

    static class Cheat extends PlainPlayer {
        @Override
        int go(int p, int r, int l) {
            return r == 1 ? super.go(p, 2, l) : super.go(p, r, l);
        }
    }

    static class Lucky extends Cheat {
        @Override
        int go(int p, int r, int l) {
            return p + r >= l ? l : super.go(p, r, l);
        }
    }

    static class Limper extends Timid {
        @Override
        int go(int p, int r, int l) {
            return super.go(p, r / 2 + r % 2, l);
        }
    }

    static class PlainLink {
        int lead(int a, int b, int u, int r, int l) {
            return b;
        }
    }

    static class Sleepy extends PlainLink {
        @Override
        int lead(int a, int b, int u, int r, int l) {
            return u % 2 != 0 ? a : super.lead(a, b, u, r, l);
        }
    }

    static class Greased extends PlainLink {
        @Override
        int lead(int a, int b, int u, int r, int l) {
            int to = super.lead(a, b, u, r, l) - 1;
            return to < 0 ? 0 : to;
        }
    }

    static class Broken extends Sleepy {
        @Override
        int lead(int a, int b, int u, int r, int l) {
            return u > 0 ? a : super.lead(a, b, u, r, l);
        }
    }

    static class Generous extends PlainLink {
        @Override
        int lead(int a, int b, int u, int r, int l) {
            int to = super.lead(a, b, u, r, l) + r;
            return to > l ? l : to;
        }
    }

    static class Oiled extends Greased {
        @Override
        int lead(int a, int b, int u, int r, int l) {
            int to = super.lead(a, b, u, r, l);
            for (int whole = 3; whole <= r; whole += 3) {
                to = to == 0 ? 0 : to - 1;
            }
            return to;
        }
    }

    private static final PlainPlayer[] PLAYER_KINDS =
        {new PlainPlayer(), new Bouncer(), new Timid(), new Cheat(), new Lucky(), new Limper()};
    private static final PlainLink[] LINK_KINDS =
        {new PlainLink(), new Sleepy(), new Greased(), new Broken(), new Generous(), new Oiled()};

    // ---- the state

    /** L, D; LINKS as kind, from, to, used; PLAYERS as kind, square, throws. */
    static final class Position {
        int l = 20;
        int d = 6;
        List<int[]> links = new ArrayList<>();
        List<int[]> players = new ArrayList<>();

        Position twin() {
            Position twin = new Position();
            twin.l = l;
            twin.d = d;
            links.forEach(one -> twin.links.add(one.clone()));
            players.forEach(one -> twin.players.add(one.clone()));
            return twin;
        }

        boolean home(int i) {
            return players.get(i)[1] == l;
        }

        int homes() {
            int sum = 0;
            for (int i = 0; i < players.size(); i++) {
                sum += home(i) ? 1 : 0;
            }
            return sum;
        }

        void roll(int i, int r) {
            if (home(i)) {
                return;
            }
            int[] one = players.get(i);
            int p = one[1];
            int q = PLAYER_KINDS[one[0]].go(p, r, l);
            one[1] = q;
            if (q != p) {
                for (int[] link : links) {
                    if (link[1] == q) {
                        one[1] = LINK_KINDS[link[0]].lead(link[1], link[2], link[3], r, l);
                        link[3] = Math.min(99, link[3] + 1);
                        break;
                    }
                }
            }
            one[2] = Math.min(9999, one[2] + 1);
        }
    }

    static final class State {
        Position now = new Position();
        List<Position> past = new ArrayList<>();
        List<int[]> notes = new ArrayList<>();
        List<int[]> marks = new ArrayList<>();

        State twin() {
            State twin = new State();
            twin.now = now.twin();
            past.forEach(one -> twin.past.add(one.twin()));
            twin.notes.addAll(notes);
            twin.marks.addAll(marks);
            return twin;
        }
    }

    private State s = new State();
    private final State[] images = new State[2];
    private final StringBuilder text = new StringBuilder();
    private BigInteger above = BigInteger.ZERO;
    private BigInteger below = BigInteger.ONE;
    private final int[] refused = new int[3];

    private int bad() {
        refused[0]++;
        return -2;
    }

    private int badTen() {
        refused[0]++;
        return -10;
    }

    private int no() {
        refused[1]++;
        return -3;
    }

    private int full() {
        refused[2]++;
        return -4;
    }

    private static boolean out(int x, int least, int most) {
        return x < least || x > most;
    }

    private boolean nobody(int i) {
        return out(i, 0, s.now.players.size() - 1);
    }

    private boolean noLink(int k) {
        return out(k, 0, s.now.links.size() - 1);
    }

    /** Every call by its name, so that a run can be told to both. */
    long call(String name, int[] a) {
        switch (name) {
            case "board": return board(a[0], a[1]);
            case "die": return die(a[0]);
            case "link": return link(a[0], a[1], a[2]);
            case "player": return player(a[0]);
            case "type": return type(a[0]);
            case "clear": return clear();
            case "read": return read();
            case "rolls": return rolls(a[0], a[1]);
            case "sets": return sets(a[0], a[1]);
            case "undo": return undo();
            case "of": return nobody(a[0]) || out(a[1], 0, 2) ? bad() : s.now.players.get(a[0])[a[1]];
            case "about": return noLink(a[0]) || out(a[1], 0, 3) ? bad() : s.now.links.get(a[0])[a[1]];
            case "goes": return goes(a[0], a[1]);
            case "few": return few(a[0], a[1]);
            case "home": return home(a[0], a[1]);
            case "mean": return mean(a[0], a[1]);
            case "ahead": return ahead(a[0], a[1], a[2]);
            case "rather": return rather(a[0], a[1], a[2]);
            case "without": return without(a[0], a[1], a[2]);
            case "span": return span(a[0], a[1], a[2]);
            default: return callOn(name, a);
        }
    }

    private long callOn(String name, int[] a) {
        switch (name) {
            case "note": return note(a[0], a[1], a[2], a[3]);
            case "mark": return mark(a[0], a[1], a[2], a[3]);
            case "forget": return forget(a[0]);
            case "is": return noLink(a[0]) ? bad() : bits(linksThatFit(a[0]));
            case "look": return noLink(a[0]) ? bad() : look(a[0]);
            case "kinds": return nobody(a[0]) ? bad() : bits(playersThatFit(a[0]));
            case "ask": return nobody(a[0]) ? bad() : ask(a[0]);
            case "choice": return choice(a[0], a[1], a[2]);
            case "evenings": return evenings(a[0], a[1]);
            case "part": return out(a[0], 0, 1) ? bad() : (a[0] == 0 ? above : below).longValueExact();
            case "image": return image(a[0]);
            case "from": return from(a[0]);
            case "status": return status(a[0]);
            case "count": return out(a[0], 0, 10) ? bad() : counts()[a[0]];
            case "digest": return digest();
            default: throw new IllegalArgumentException(name);
        }
    }

    // ---- a board

    private int board(int l, int d) {
        if (out(l, 10, 40) || out(d, 2, 6)) {
            return bad();
        }
        int before = s.now.players.size();
        s = new State();
        s.now.l = l;
        s.now.d = d;
        return before;
    }

    private int die(int d) {
        if (out(d, 2, 6)) {
            return bad();
        }
        int before = s.now.d;
        s.now.d = d;
        s.past.clear();
        return before;
    }

    private int link(int kind, int a, int b) {
        if (out(kind, 0, 5) || out(a, 1, s.now.l - 1) || out(b, 0, s.now.l) || a == b) {
            return bad();
        }
        if (s.now.links.stream().anyMatch(one -> one[1] == a)) {
            return no();
        }
        if (s.now.links.size() == 6) {
            return full();
        }
        s.now.links.add(new int[] {kind, a, b, 0});
        s.past.clear();
        return s.now.links.size() - 1;
    }

    private int player(int kind) {
        if (out(kind, 0, 5)) {
            return bad();
        }
        if (s.now.players.size() == 4) {
            return full();
        }
        s.now.players.add(new int[] {kind, 0, 0});
        s.past.clear();
        return s.now.players.size() - 1;
    }

    private int type(int c) {
        if (out(c, 0, 127)) {
            return bad();
        }
        if (text.length() == 150) {
            return full();
        }
        text.append((char) c);
        return text.length();
    }

    private int clear() {
        int had = text.length();
        text.setLength(0);
        return had;
    }

    // ---- the text: a FAULT is raised where a token can not stand

    private static final class Fault extends Exception {
        private static final long serialVersionUID = 1L;
        final int place;

        Fault(int place) {
            this.place = place;
        }
    }

    private record Token(String sign, int place) {
        boolean isNumber() {
            return sign.matches("[0-9]{1,2}");
        }
    }

    private static List<Token> tokens(String text) {
        List<Token> all = new ArrayList<>();
        java.util.regex.Matcher m = java.util.regex.Pattern.compile("[a-z]+|[0-9]+|[^ ]", java.util.regex.Pattern.DOTALL).matcher(text);
        while (m.find()) {
            all.add(new Token(m.group(), m.start()));
        }
        all.add(new Token("", text.length()));
        return all;
    }

    private int read() {
        List<Token> all = tokens(text.toString());
        Position draft = new Position();
        int items = 0;
        try {
            int at = 0;
            while (items == 0 || at < all.size() - 1) {
                Token word = all.get(at);
                if (word.sign().equals("board") != (items == 0)) {
                    throw new Fault(word.place());
                }
                at = readItem(all, at, draft) + 1;
                items++;
            }
        } catch (Fault fault) {
            return -10 - fault.place;
        }
        s = new State();
        s.now = draft;
        return items;
    }

    /** Answers where the item's ; is. */
    private static int readItem(List<Token> all, int at, Position draft) throws Fault {
        Token word = all.get(at);
        int[] a = new int[3];
        switch (word.sign()) {
            case "board":
                draft.l = number(all.get(at + 1), 10, 40);
                draft.d = number(all.get(at + 2), 2, 6);
                return end(all, at + 3);
            case "link":
                if (draft.links.size() == 6) {
                    throw new Fault(word.place());
                }
                a[0] = number(all.get(at + 1), 0, 5);
                a[1] = number(all.get(at + 2), 1, draft.l - 1);
                for (int[] one : draft.links) {
                    if (one[1] == a[1]) {
                        throw new Fault(all.get(at + 2).place());
                    }
                }
                a[2] = number(all.get(at + 3), 0, draft.l);
                if (a[2] == a[1]) {
                    throw new Fault(all.get(at + 3).place());
                }
                draft.links.add(new int[] {a[0], a[1], a[2], 0});
                return end(all, at + 4);
            case "player":
                if (draft.players.size() == 4) {
                    throw new Fault(word.place());
                }
                draft.players.add(new int[] {number(all.get(at + 1), 0, 5), 0, 0});
                return end(all, at + 2);
            case "set":
                a[0] = number(all.get(at + 1), 0, draft.players.size() - 1);
                draft.players.get(a[0])[1] = number(all.get(at + 2), 0, draft.l);
                return end(all, at + 3);
            case "throw":
                a[0] = number(all.get(at + 1), 0, draft.players.size() - 1);
                return readThrows(all, at + 2, draft, a[0]);
            default:
                throw new Fault(word.place());
        }
    }

    private static int readThrows(List<Token> all, int first, Position draft, int i) throws Fault {
        int at = first;
        while (at == first || !all.get(at).sign().equals(";")) {
            int r = number(all.get(at), 1, draft.d);
            if (at - first == 9 || draft.home(i)) {
                throw new Fault(all.get(at).place());
            }
            draft.roll(i, r);
            at++;
        }
        return at;
    }

    private static int number(Token token, int least, int most) throws Fault {
        if (!token.isNumber() || out(Integer.parseInt(token.sign()), least, most)) {
            throw new Fault(token.place());
        }
        return Integer.parseInt(token.sign());
    }

    private static int end(List<Token> all, int at) throws Fault {
        if (!all.get(at).sign().equals(";")) {
            throw new Fault(all.get(at).place());
        }
        return at;
    }

    // ---- throws

    private void remember() {
        s.past.add(s.now.twin());
        if (s.past.size() > 8) {
            s.past.remove(0);
        }
    }

    private int rolls(int i, int r) {
        if (nobody(i) || out(r, 1, s.now.d)) {
            return bad();
        }
        if (s.now.home(i)) {
            return no();
        }
        remember();
        s.now.roll(i, r);
        return s.now.players.get(i)[1];
    }

    private int sets(int i, int p) {
        if (nobody(i) || out(p, 0, s.now.l)) {
            return bad();
        }
        int before = s.now.players.get(i)[1];
        if (before == p) {
            return no();
        }
        remember();
        s.now.players.get(i)[1] = p;
        return before;
    }

    private int undo() {
        if (s.past.isEmpty()) {
            return no();
        }
        s.now = s.past.remove(s.past.size() - 1);
        return s.now.homes();
    }

    // ---- where one comes to

    private int goes(int i, int r) {
        if (nobody(i) || out(r, 1, s.now.d)) {
            return bad();
        }
        return s.now.home(i) ? no() : behind(s.now, i, new int[] {r});
    }

    private static int behind(Position start, int i, int[] row) {
        Position p = start.twin();
        for (int r : row) {
            p.roll(i, r);
        }
        return p.players.get(i)[1];
    }

    /** All rows of n throws, rising. */
    private static List<int[]> rows(int d, int n) {
        List<int[]> all = new ArrayList<>();
        int many = (int) Math.pow(d, n);
        for (int x = 0; x < many; x++) {
            int[] row = new int[n];
            int rest = x;
            for (int k = n - 1; k >= 0; k--) {
                row[k] = rest % d + 1;
                rest /= d;
            }
            all.add(row);
        }
        return all;
    }

    private int[] fewRow(int i) {
        for (int n = 0; n <= 5; n++) {
            for (int[] row : rows(s.now.d, n)) {
                if (behind(s.now, i, row) == s.now.l) {
                    return row;
                }
            }
        }
        return null;
    }

    private int few(int i, int k) {
        if (nobody(i) || k < -1) {
            return badTen();
        }
        int[] row = fewRow(i);
        if (row == null) {
            return -6;
        }
        return k == -1 ? row.length : k >= row.length ? -5 : row[k];
    }

    private int fraction(long a, long b) {
        BigInteger x = BigInteger.valueOf(a);
        BigInteger y = BigInteger.valueOf(b);
        BigInteger g = x.gcd(y);
        above = x.divide(g);
        below = y.divide(g);
        return 1;
    }

    private static int sum(Position start, int i, int n, ToIntFunction<Integer> worth) {
        int sum = 0;
        for (int[] row : rows(start.d, n)) {
            sum += worth.applyAsInt(behind(start, i, row));
        }
        return sum;
    }

    private static int rowsHome(Position start, int i, int n) {
        return sum(start, i, n, p -> p == start.l ? 1 : 0);
    }

    private int home(int i, int n) {
        if (nobody(i) || out(n, 0, 5)) {
            return bad();
        }
        return fraction(rowsHome(s.now, i, n), rows(s.now.d, n).size());
    }

    private int mean(int i, int n) {
        if (nobody(i) || out(n, 0, 5)) {
            return bad();
        }
        return fraction(sum(s.now, i, n, p -> p), rows(s.now.d, n).size());
    }

    private int ahead(int a, int b, int n) {
        if (nobody(a) || nobody(b) || a == b || out(n, 0, 2)) {
            return bad();
        }
        List<int[]> all = rows(s.now.d, 2 * n);
        int wins = 0;
        for (int[] row : all) {
            Position p = s.now.twin();
            for (int k = 0; k < n; k++) {
                p.roll(a, row[2 * k]);
                p.roll(b, row[2 * k + 1]);
            }
            wins += p.players.get(a)[1] > p.players.get(b)[1] ? 1 : 0;
        }
        return fraction(wins, all.size());
    }

    private int rather(int i, int n, int what) {
        if (nobody(i) || out(n, 1, 4) || out(what, 0, 1)) {
            return bad();
        }
        int[] many = new int[s.now.l];
        for (int p = 0; p < many.length; p++) {
            Position start = s.now.twin();
            start.players.get(i)[1] = p;
            many[p] = rowsHome(start, i, n);
        }
        int most = Arrays.stream(many).max().getAsInt();
        int where = many.length - 1;
        while (many[where] != most) {
            where--;
        }
        return what == 0 ? where : most;
    }

    private int without(int i, int n, int what) {
        if (nobody(i) || out(n, 1, 4) || out(what, 0, 1)) {
            return bad();
        }
        int[] many = new int[s.now.links.size()];
        for (int k = 0; k < many.length; k++) {
            Position start = s.now.twin();
            start.links.remove(k);
            many[k] = rowsHome(start, i, n);
        }
        if (many.length == 0) {
            return -1;
        }
        int most = Arrays.stream(many).max().getAsInt();
        int which = 0;
        while (many[which] != most) {
            which++;
        }
        return what == 0 ? which : most;
    }

    private int span(int i, int n, int what) {
        if (nobody(i) || out(n, 0, 4) || out(what, 0, 2)) {
            return bad();
        }
        TreeSet<Integer> squares = new TreeSet<>();
        rows(s.now.d, n).forEach(row -> squares.add(behind(s.now, i, row)));
        return what == 0 ? squares.size() : what == 1 ? squares.first() : squares.last();
    }

    // ---- what it is

    private int note(int k, int u, int r, int x) {
        if (noLink(k) || out(u, 0, 9) || out(r, 1, 6) || out(x, 0, 40)) {
            return bad();
        }
        return keep(s.notes, k, u, r, x);
    }

    private int mark(int i, int p, int r, int x) {
        if (nobody(i) || out(p, 0, 40) || out(r, 1, 6) || out(x, 0, 40)) {
            return bad();
        }
        return keep(s.marks, i, p, r, x);
    }

    private int keep(List<int[]> seen, int... one) {
        if (seen.size() == 6) {
            return full();
        }
        seen.add(one);
        return seen.size();
    }

    private int forget(int what) {
        if (out(what, 0, 1)) {
            return bad();
        }
        List<int[]> seen = what == 0 ? s.notes : s.marks;
        int had = seen.size();
        seen.clear();
        return had;
    }

    private static int bits(List<Integer> kinds) {
        return kinds.stream().mapToInt(kind -> (int) Math.pow(2, kind)).sum();
    }

    private int leads(int kind, int k, int u, int r) {
        return LINK_KINDS[kind].lead(s.now.links.get(k)[1], s.now.links.get(k)[2], u, r, s.now.l);
    }

    private List<Integer> linksThatFit(int k) {
        List<Integer> fit = new ArrayList<>(List.of(0, 1, 2, 3, 4, 5));
        fit.removeIf(kind -> s.notes.stream().anyMatch(o -> o[0] == k && leads(kind, k, o[1], o[2]) != o[3]));
        return fit;
    }

    private List<Integer> playersThatFit(int i) {
        List<Integer> fit = new ArrayList<>(List.of(0, 1, 2, 3, 4, 5));
        fit.removeIf(kind -> s.marks.stream()
            .anyMatch(o -> o[0] == i && PLAYER_KINDS[kind].go(o[1], o[2], s.now.l) != o[3]));
        return fit;
    }

    private static int mostAlike(List<Integer> kinds, ToIntFunction<Integer> end) {
        java.util.Map<Integer, Integer> many = new java.util.HashMap<>();
        kinds.forEach(kind -> many.merge(end.applyAsInt(kind), 1, Integer::sum));
        return many.values().stream().max(Integer::compare).orElse(0);
    }

    private int look(int k) {
        List<Integer> fit = linksThatFit(k);
        if (fit.isEmpty()) {
            return -1;
        }
        int[] best = {99, 0};
        for (int u = 0; u <= 3; u++) {
            for (int r = 1; r <= 6; r++) {
                int used = u;
                int by = r;
                int most = mostAlike(fit, kind -> leads(kind, k, used, by));
                if (most < best[0]) {
                    best = new int[] {most, 10 * u + r};
                }
            }
        }
        return best[1];
    }

    private int ask(int i) {
        List<Integer> fit = playersThatFit(i);
        if (fit.isEmpty()) {
            return -1;
        }
        int[] best = {99, 0};
        for (int p = 0; p < s.now.l; p++) {
            for (int r = 1; r <= 6; r++) {
                int at = p;
                int by = r;
                int most = mostAlike(fit, kind -> PLAYER_KINDS[kind].go(at, by, s.now.l));
                if (most < best[0]) {
                    best = new int[] {most, 100 * p + r};
                }
            }
        }
        return best[1];
    }

    private int[] gets(int a, int b, int i, int j) {
        Position p = s.now.twin();
        p.roll(a, i);
        p.roll(b, j);
        int pa = p.players.get(a)[1];
        int pb = p.players.get(b)[1];
        int same = i == j ? 3 : 0;
        return new int[] {(pa == p.l ? 10 : 0) + (pa > pb ? 1 : 0) - same, (pb == p.l ? 10 : 0) + (pb > pa ? 1 : 0) - same};
    }

    private int choice(int a, int b, int k) {
        if (nobody(a) || nobody(b) || a == b || k < -1) {
            return badTen();
        }
        List<Integer> rest = new ArrayList<>();
        for (int i = 1; i <= s.now.d; i++) {
            for (int j = 1; j <= s.now.d; j++) {
                boolean rests = true;
                for (int other = 1; other <= s.now.d; other++) {
                    rests &= gets(a, b, other, j)[0] <= gets(a, b, i, j)[0];
                    rests &= gets(a, b, i, other)[1] <= gets(a, b, i, j)[1];
                }
                if (rests) {
                    rest.add(10 * i + j);
                }
            }
        }
        return k == -1 ? rest.size() : k >= rest.size() ? -5 : rest.get(k);
    }

    private int evenings(int seed, int n) {
        if (out(seed, 0, 999999) || out(n, 0, 60)) {
            return bad();
        }
        Position p = s.now.twin();
        BigInteger x = BigInteger.valueOf(seed);
        for (int k = 0; k < n; k++) {
            x = x.multiply(BigInteger.valueOf(1103515245)).add(BigInteger.valueOf(12345)).mod(BigInteger.TWO.pow(31));
            int i = x.divide(BigInteger.valueOf(65536)).mod(BigInteger.valueOf(4)).intValue();
            int r = x.divide(BigInteger.valueOf(1048576)).mod(BigInteger.valueOf(p.d)).intValue() + 1;
            if (i < p.players.size()) {
                p.roll(i, r);
            }
        }
        return p.homes();
    }

    // ---- what there is

    private int image(int i) {
        if (out(i, 0, 1)) {
            return bad();
        }
        images[i] = s.twin();
        return 1;
    }

    private int from(int i) {
        if (out(i, 0, 1)) {
            return bad();
        }
        if (images[i] == null) {
            return no();
        }
        s = images[i].twin();
        return 1;
    }

    private int status(int what) {
        if (out(what, 0, 2)) {
            bad();
            return -1;
        }
        return refused[what];
    }

    private int[] counts() {
        int thrown = s.now.players.stream().mapToInt(one -> one[2]).sum();
        int used = s.now.links.stream().mapToInt(one -> one[3]).sum();
        return new int[] {s.now.l, s.now.d, s.now.links.size(), s.now.players.size(), s.now.homes(), thrown, used,
            s.notes.size(), s.marks.size(), s.past.size(), text.length()};
    }

    private long digest() {
        List<Long> values = new ArrayList<>();
        for (int v : counts()) {
            values.add((long) v);
        }
        for (List<int[]> part : List.of(s.now.links, s.now.players, s.notes, s.marks)) {
            for (int[] one : part) {
                for (int v : one) {
                    values.add((long) v);
                }
            }
        }
        values.add(above.longValueExact());
        values.add(below.longValueExact());
        long h = 1831;
        for (long v : values) {
            h = h * 31 + v;
        }
        return h;
    }
}
