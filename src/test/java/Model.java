import java.util.ArrayDeque;
import java.util.ArrayList;
import java.util.Arrays;
import java.util.Deque;
import java.util.HashMap;
import java.util.HashSet;
import java.util.List;
import java.util.Map;
import java.util.Set;
import java.util.TreeMap;

/**
 * The document told a second time, on purpose in another way than the class does it: the text
 * becomes a tree of closures, faults are exceptions, types are texts. Tests compare the two.
 */
final class Model {
    private static final int NONE = -1;

    // ---- kinds and abilities, by name ----
    private static final List<String> ALL = Arrays.asList("VEHICLE", "ENGINE", "WAGON", "STEAM", "DIESEL",
        "BOX", "TANK", "FLAT", "VAN", "SHUNTER", "REEFER", "MILKER", "CRANE",
        "HOLDS", "COOLS", "BRAKES", "LIFTS", "BURNS");
    private static final Map<String, String> PARENT = new HashMap<>();
    private static final Map<String, List<String>> HAVE = new HashMap<>();
    static {
        for (String pair : ("ENGINE:VEHICLE WAGON:VEHICLE STEAM:ENGINE DIESEL:ENGINE BOX:WAGON TANK:WAGON "
            + "FLAT:WAGON VAN:WAGON SHUNTER:DIESEL REEFER:BOX MILKER:TANK CRANE:FLAT").split(" ")) {
            PARENT.put(pair.split(":")[0], pair.split(":")[1]);
        }
        HAVE.put("HOLDS", Arrays.asList("BOX", "TANK", "FLAT"));
        HAVE.put("COOLS", Arrays.asList("REEFER", "MILKER"));
        HAVE.put("BRAKES", Arrays.asList("ENGINE", "VAN"));
        HAVE.put("LIFTS", Arrays.asList("SHUNTER", "CRANE"));
        HAVE.put("BURNS", Arrays.asList("STEAM", "DIESEL", "REEFER"));
    }

    private static boolean isAbility(String t) {
        return HAVE.containsKey(t);
    }

    private static boolean isRow(String t) {
        return t != null && t.endsWith("[]");
    }

    private static String of(String row) {
        return row.substring(0, row.length() - 2);
    }

    static boolean below(String a, String b) {
        if (isRow(a) || isRow(b)) {
            return isRow(a) && isRow(b) && below(of(a), of(b));
        }
        for (String k = a; k != null; k = PARENT.get(k)) {
            if (k.equals(b) || isAbility(b) && HAVE.get(b).contains(k)) {
                return true;
            }
        }
        return false;
    }

    // Static types: a name of ALL, one with [], "INT", "none"; null for no value.
    private static boolean reference(String t) {
        return t != null && !t.equals("INT");
    }

    private static boolean fits(String t, String wanted) {
        if (t == null || wanted == null) {
            return false;
        }
        if (t.equals("INT") || wanted.equals("INT")) {
            return t.equals(wanted);
        }
        return t.equals("none") || below(t, wanted);
    }

    private static int typeNumber(String t) {
        return isRow(t) ? 18 + ALL.indexOf(of(t)) : ALL.indexOf(t);
    }

    // ---- things ----
    private static final class Car {
        String kind;
        int number;
        int tag;
        int load;
        int chill;
        int reach;
        int fuel;
        Car behind;

        boolean is(String t) {
            return below(kind, t);
        }

        int mass() {
            return massAs(kind);
        }

        private int massAs(String k) {
            switch (k) {
                case "VEHICLE": return 5;
                case "ENGINE": return massAs("VEHICLE") + 40;
                case "STEAM": return massAs("ENGINE") + fuel;
                case "DIESEL": return massAs("ENGINE") + fuel / 2;
                case "SHUNTER": return massAs("DIESEL") - 20;
                case "WAGON": return massAs("VEHICLE") + 10;
                case "BOX": case "FLAT": return massAs("WAGON") + load;
                case "TANK": return massAs("WAGON") + load + load;
                case "VAN": return massAs("WAGON") + 2;
                case "REEFER": return massAs("BOX") + fuel + 3;
                case "MILKER": return massAs("TANK") + (chill < 0 ? 1 : 0);
                case "CRANE": return massAs("FLAT") + reach;
                default: throw new IllegalStateException(k);
            }
        }

        int grip() {
            if (!is("BRAKES")) {
                return 0;
            }
            return kind.equals("VAN") ? 25 : kind.equals("STEAM") ? 15 : kind.equals("DIESEL") ? 20
                : kind.equals("SHUNTER") ? 17 : 10;
        }

        int pull() {
            return kind.equals("STEAM") ? 20 * fuel : kind.equals("DIESEL") ? 300 : kind.equals("SHUNTER") ? 150 : 0;
        }
    }

    private static final class Cars {
        String of;
        Car[] at;
    }

    private static final class Ride {
        Cars cars;
        int track;
        int miles;
        int speed;
        int state;
    }

    private final List<Car> cars = new ArrayList<>();
    private int rows;
    private int places;
    private final String[] stated = new String[8];
    private final Cars[] onTrack = new Cars[8];
    private final List<Ride> rides = new ArrayList<>();
    private int clock;
    private int faults;
    private final List<Integer> said = new ArrayList<>();
    private final List<Integer> tape = new ArrayList<>();
    private int loadFault;
    private int loadPlace = NONE;
    private List<Proc> text = new ArrayList<>();

    Model() {
        Arrays.fill(stated, "VEHICLE");
    }

    // ---- the text ----
    private static final class TextFault extends RuntimeException {
        private static final long serialVersionUID = 1;
        final int fault;
        final int place;

        TextFault(int fault, int place) {
            super(null, null, false, false);
            this.fault = fault;
            this.place = place;
        }
    }

    private static final class Token {
        String text;
        char sort; // n name, w word, t type, 9 number, s sign, e end, x none
        int place;
    }

    private static final Set<String> WORDS = new HashSet<>(Arrays.asList(
        "to var if else while try catch return say fail new none is as size".split(" ")));
    private static final Set<String> FIELDS = new HashSet<>(Arrays.asList(
        "tag behind mass grip pull load chill reach fuel".split(" ")));

    private static List<Token> tokens(String s) {
        List<Token> all = new ArrayList<>();
        int i = 0;
        while (true) {
            while (i < s.length() && (s.charAt(i) == 32 || s.charAt(i) == 10)) {
                i++;
            }
            Token t = new Token();
            t.place = i;
            all.add(t);
            if (i == s.length()) {
                t.sort = 'e';
                t.text = "";
                return all;
            }
            int j = i;
            char c = s.charAt(i);
            if (c >= 'a' && c <= 'z') {
                while (j < s.length() && String.valueOf(s.charAt(j)).matches("[a-z0-9]")) {
                    j++;
                }
                t.text = s.substring(i, j);
                t.sort = j - i > 8 ? 'x' : WORDS.contains(t.text) ? 'w' : 'n';
            } else if (c >= 'A' && c <= 'Z') {
                while (j < s.length() && s.charAt(j) >= 'A' && s.charAt(j) <= 'Z') {
                    j++;
                }
                t.text = s.substring(i, j);
                t.sort = ALL.contains(t.text) || t.text.equals("INT") ? 't' : 'x';
            } else if (c >= '0' && c <= '9') {
                while (j < s.length() && s.charAt(j) >= '0' && s.charAt(j) <= '9') {
                    j++;
                }
                t.text = s.substring(i, j);
                boolean letter = j < s.length() && String.valueOf(s.charAt(j)).matches("[a-zA-Z]");
                t.sort = j - i > 9 || letter ? 'x' : '9';
            } else {
                j = i + 1;
                String two = i + 2 <= s.length() ? s.substring(i, i + 2) : "";
                if (two.equals("==") || two.equals("!=")) {
                    j = i + 2;
                }
                t.text = s.substring(i, j);
                t.sort = j == i + 2 || "(){}[],;.:=<+-*".indexOf(c) >= 0 ? 's' : 'x';
            }
            i = j;
        }
    }

    // ---- a run ----
    private static final class RunFault extends RuntimeException {
        private static final long serialVersionUID = 1;
        final int fault;
        final int own;
        final int place;

        RunFault(int fault, int own, int place) {
            super(null, null, false, false);
            this.fault = fault;
            this.own = own;
            this.place = place;
        }
    }

    private static final class RunEnd extends RuntimeException {
        private static final long serialVersionUID = 1;
        final int end;
        final int place;

        RunEnd(int end, int place) {
            super(null, null, false, false);
            this.end = end;
            this.place = place;
        }
    }

    private static final class Return extends RuntimeException {
        private static final long serialVersionUID = 1;
        final Object value;

        Return(Object value) {
            super(null, null, false, false);
            this.value = value;
        }
    }

    private interface Value {
        Object get(Map<String, Object> names);
    }

    private interface Step {
        void go(Map<String, Object> names);
    }

    private static final class Proc {
        String name;
        List<String> parameterNames = new ArrayList<>();
        List<String> parameters = new ArrayList<>();
        String gives;
        Step body;
    }

    private static final class Typed {
        final String type;
        final Value value;
        char shape = 'o'; // o other, n name, c call, i index, f field
        String name;
        Value x;
        Value i;

        Typed(String type, Value value) {
            this.type = type;
            this.value = value;
        }
    }

    private int fuel;
    private int deep;
    private int[] told;

    private void act(int place) {
        if (fuel == 0) {
            throw new RunEnd(7, place);
        }
        fuel--;
    }

    private RunFault fault(int n, int own, int place) {
        if (faults == 600) {
            throw new RunEnd(8, place);
        }
        faults++;
        return new RunFault(n, own, place);
    }

    private final class Parser {
        final List<Token> ts;
        final List<Proc> procs = new ArrayList<>();
        final Deque<Map<String, String>> scopes = new ArrayDeque<>();
        int i;
        int nameCount;
        int braces;
        int open;
        Proc now;

        Parser(String s) {
            ts = tokens(s);
        }

        Token t() {
            return ts.get(i);
        }

        boolean sees(String s) {
            Token t = t();
            return t.text.equals(s) && (t.sort == 's' || t.sort == 'w');
        }

        TextFault bad(int n) {
            return new TextFault(n, t().place);
        }

        void go() {
            if (i == 800) {
                throw bad(5);
            }
            i++;
        }

        void want(String s) {
            if (!sees(s)) {
                throw bad(1);
            }
        }

        void eat(String s) {
            want(s);
            go();
        }

        void eatIf(String s, boolean typed) {
            want(s);
            if (!typed) {
                throw bad(4);
            }
            go();
        }

        void openOne() {
            if (open == 10) {
                throw bad(1);
            }
            open++;
            go();
        }

        String known(String name) {
            for (Map<String, String> m : scopes) {
                if (m.containsKey(name)) {
                    return m.get(name);
                }
            }
            return null;
        }

        Proc proc(String name) {
            for (Proc p : procs) {
                if (p.name.equals(name)) {
                    return p;
                }
            }
            return null;
        }

        boolean five(String name) {
            return Arrays.asList("track", "lay", "hump", "send", "now").contains(name);
        }

        List<Proc> text() {
            do {
                eat("to");
                oneProc();
            } while (t().sort != 'e');
            return procs;
        }

        void oneProc() {
            now = new Proc();
            if (t().sort != 'n') {
                throw bad(1);
            }
            if (proc(t().text) != null || five(t().text)) {
                throw bad(3);
            }
            if (procs.size() == 12) {
                throw bad(5);
            }
            now.name = t().text;
            procs.add(now);
            go();
            nameCount = 0;
            scopes.clear();
            scopes.push(new HashMap<>());
            eat("(");
            while (!sees(")")) {
                if (!now.parameters.isEmpty()) {
                    eat(",");
                }
                String type = type();
                String name = fresh(now.parameters.size() == 4);
                now.parameters.add(type);
                now.parameterNames.add(name);
                scopes.peek().put(name, type);
                if (!sees(",") && !sees(")")) {
                    throw bad(1);
                }
            }
            eat(")");
            if (sees(":")) {
                go();
                now.gives = type();
            }
            now.body = block();
        }

        String fresh(boolean tooMany) {
            if (t().sort != 'n') {
                throw bad(1);
            }
            if (known(t().text) != null) {
                throw bad(3);
            }
            if (tooMany || nameCount == 24) {
                throw bad(5);
            }
            nameCount++;
            String name = t().text;
            go();
            return name;
        }

        String type() {
            String t = typeOpenEnded();
            go();
            return t;
        }

        String typeOpenEnded() {
            if (t().sort != 't') {
                throw bad(1);
            }
            String name = t().text;
            Token next = ts.get(i + 1);
            if (!name.equals("INT") && next.sort == 's' && next.text.equals("[")) {
                go();
                go();
                want("]");
                return name + "[]";
            }
            return name;
        }

        Step block() {
            want("{");
            if (braces == 8) {
                throw bad(1);
            }
            braces++;
            go();
            scopes.push(new HashMap<>());
            List<Step> steps = new ArrayList<>();
            while (!sees("}")) {
                steps.add(statement());
            }
            go();
            scopes.pop();
            braces--;
            return names -> {
                for (Step s : steps) {
                    s.go(names);
                }
            };
        }

        Step statement() {
            int place = t().place;
            String word = t().sort == 'w' ? t().text : "";
            open = 0;
            switch (word) {
                case "var": {
                    go();
                    String type = type();
                    String name = fresh(false);
                    int sign = t().place;
                    eat("=");
                    Typed e = e();
                    eatIf(";", fits(e.type, type));
                    scopes.peek().put(name, type);
                    return names -> {
                        Object v = e.value.get(names);
                        act(sign);
                        names.put(name, v);
                    };
                }
                case "if": {
                    go();
                    Value e = condition(place);
                    Step yes = block();
                    Step no = null;
                    if (sees("else")) {
                        go();
                        no = block();
                    }
                    Step other = no;
                    return names -> {
                        if ((Integer) e.get(names) != 0) {
                            yes.go(names);
                        } else if (other != null) {
                            other.go(names);
                        }
                    };
                }
                case "while": {
                    go();
                    Value e = condition(place);
                    Step body = block();
                    return names -> {
                        while ((Integer) e.get(names) != 0) {
                            body.go(names);
                        }
                    };
                }
                case "try": {
                    go();
                    Step body = block();
                    eat("catch");
                    eat("(");
                    String name = fresh(false);
                    eat(")");
                    scopes.push(new HashMap<>());
                    scopes.peek().put(name, "INT");
                    Step other = block();
                    scopes.pop();
                    return names -> {
                        int depth = deep;
                        try {
                            body.go(names);
                        } catch (RunFault f) {
                            deep = depth;
                            names.put(name, f.fault == 6 ? f.own : f.fault);
                            other.go(names);
                        }
                    };
                }
                case "return": {
                    go();
                    if (sees(";")) {
                        eatIf(";", now.gives == null);
                        return names -> {
                            act(place);
                            throw new Return(null);
                        };
                    }
                    Typed e = e();
                    eatIf(";", fits(e.type, now.gives));
                    return names -> {
                        Object v = e.value.get(names);
                        act(place);
                        throw new Return(v);
                    };
                }
                case "say": {
                    go();
                    Typed e = e();
                    eatIf(";", e.type != null);
                    return names -> {
                        Object v = e.value.get(names);
                        act(place);
                        if (said.size() < 300) {
                            said.add(v == null ? -1000 : v instanceof Car ? ((Car) v).number
                                : v instanceof Cars ? -1 - ((Cars) v).at.length : (Integer) v);
                        }
                    };
                }
                case "fail": {
                    go();
                    Typed e = e();
                    eatIf(";", "INT".equals(e.type));
                    return names -> {
                        int v = (Integer) e.value.get(names);
                        act(place);
                        throw fault(6, v, place);
                    };
                }
                default:
                    return unitStatement();
            }
        }

        Value condition(int place) {
            want("(");
            openOne();
            Typed e = e();
            eatIf(")", "INT".equals(e.type));
            return names -> {
                Object v = e.value.get(names);
                act(place);
                return v;
            };
        }

        Step unitStatement() {
            Typed u = unit();
            if (u.shape == 'c') {
                eat(";");
                return names -> u.value.get(names);
            }
            if (u.shape == 'o') {
                throw bad(1);
            }
            int sign = t().place;
            eatIf("=", u.shape != 'f' || !Arrays.asList("mass", "grip", "pull").contains(u.name));
            Typed e = e();
            eatIf(";", fits(e.type, u.type));
            if (u.shape == 'n') {
                return names -> {
                    Object v = e.value.get(names);
                    act(sign);
                    names.put(u.name, v);
                };
            }
            if (u.shape == 'f') {
                return names -> {
                    Car x = (Car) u.x.get(names);
                    Object v = e.value.get(names);
                    act(sign);
                    if (x == null) {
                        throw fault(1, 0, sign);
                    }
                    set(x, u.name, v);
                };
            }
            return names -> {
                Cars x = (Cars) u.x.get(names);
                int i = (Integer) u.i.get(names);
                Car v = (Car) e.value.get(names);
                act(sign);
                if (x == null) {
                    throw fault(1, 0, sign);
                }
                if (i < 0 || i >= x.at.length) {
                    throw fault(2, 0, sign);
                }
                if (v != null && !v.is(x.of)) {
                    throw fault(5, 0, sign);
                }
                x.at[i] = v;
            };
        }

        Typed e() {
            Typed left = sum();
            if (!sees("==") && !sees("!=") && !sees("<")) {
                return left;
            }
            String sign = t().text;
            int place = t().place;
            if (left.type == null || sign.equals("<") && !left.type.equals("INT")) {
                throw bad(4);
            }
            go();
            Typed right = sum();
            if (right.type == null || reference(left.type) != reference(right.type)) {
                throw new TextFault(4, place);
            }
            return new Typed("INT", names -> {
                Object l = left.value.get(names);
                Object r = right.value.get(names);
                act(place);
                if (sign.equals("<")) {
                    return (Integer) l < (Integer) r ? 1 : 0;
                }
                boolean same = l instanceof Integer ? l.equals(r) : l == r;
                return same == sign.equals("==") ? 1 : 0;
            });
        }

        Typed sum() {
            Typed left = product();
            while (sees("+") || sees("-")) {
                left = join(left, t().text);
            }
            return left;
        }

        Typed product() {
            Typed left = unit();
            while (sees("*")) {
                left = join(left, "*");
            }
            return left;
        }

        Typed join(Typed left, String sign) {
            int place = t().place;
            if (!"INT".equals(left.type)) {
                throw bad(4);
            }
            go();
            Typed right = sign.equals("*") ? unit() : product();
            if (!"INT".equals(right.type)) {
                throw new TextFault(4, place);
            }
            return new Typed("INT", names -> {
                int l = (Integer) left.value.get(names);
                int r = (Integer) right.value.get(names);
                act(place);
                return sign.equals("*") ? l * r : sign.equals("+") ? l + r : l - r;
            });
        }

        Typed unit() {
            Typed x = first();
            while (true) {
                if (sees("[")) {
                    x = index(x);
                } else if (sees(".")) {
                    go();
                    x = member(x);
                } else if (sees("as") || sees("is")) {
                    x = asked(x, t().text.equals("as"));
                } else {
                    return x;
                }
            }
        }

        Typed index(Typed x) {
            int place = t().place;
            openOne();
            Typed e = e();
            eatIf("]", isRow(x.type) && "INT".equals(e.type));
            open--;
            Typed u = new Typed(of(x.type), names -> {
                Cars r = (Cars) x.value.get(names);
                int i = (Integer) e.value.get(names);
                act(place);
                if (r == null) {
                    throw fault(1, 0, place);
                }
                if (i < 0 || i >= r.at.length) {
                    throw fault(2, 0, place);
                }
                return r.at[i];
            });
            u.shape = 'i';
            u.x = x.value;
            u.i = e.value;
            return u;
        }

        Typed member(Typed x) {
            int place = t().place;
            if (sees("size")) {
                eatIf("size", isRow(x.type));
                return new Typed("INT", names -> {
                    Cars r = (Cars) x.value.get(names);
                    act(place);
                    if (r == null) {
                        throw fault(1, 0, place);
                    }
                    return r.at.length;
                });
            }
            if (t().sort != 'n') {
                throw bad(1);
            }
            String field = t().text;
            if (!FIELDS.contains(field)) {
                throw bad(2);
            }
            String owner = field.equals("grip") ? "BRAKES" : field.equals("pull") ? "ENGINE"
                : field.equals("load") ? "HOLDS" : field.equals("chill") ? "COOLS"
                : field.equals("reach") ? "LIFTS" : field.equals("fuel") ? "BURNS" : "VEHICLE";
            if (!fits(x.type, owner)) {
                throw bad(4);
            }
            go();
            Typed u = new Typed(field.equals("behind") ? "VEHICLE" : "INT", names -> {
                Car c = (Car) x.value.get(names);
                act(place);
                if (c == null) {
                    throw fault(1, 0, place);
                }
                return get(c, field);
            });
            u.shape = 'f';
            u.name = field;
            u.x = x.value;
            return u;
        }

        Typed asked(Typed x, boolean as) {
            int place = t().place;
            go();
            String type = typeOpenEnded();
            boolean fine = reference(x.type) && !type.equals("INT");
            if (fine && !x.type.equals("none")) {
                fine = isRow(x.type) == isRow(type);
                String a = isRow(x.type) ? of(x.type) : x.type;
                String b = isRow(type) ? of(type) : type;
                if (fine && !isAbility(a) && !isAbility(b)) {
                    fine = below(a, b) || below(b, a);
                }
            }
            if (!fine) {
                throw bad(4);
            }
            go();
            return new Typed(as ? type : "INT", names -> {
                Object v = x.value.get(names);
                act(place);
                boolean is = v != null && below(v instanceof Car ? ((Car) v).kind : ((Cars) v).of + "[]", type);
                if (!as) {
                    return is ? 1 : 0;
                }
                if (v != null && !is) {
                    throw fault(4, 0, place);
                }
                return v;
            });
        }

        Typed number(int factor, int place) {
            if (t().sort != '9') {
                throw bad(1);
            }
            int n = factor * Integer.parseInt(t().text);
            go();
            return new Typed("INT", names -> {
                act(place);
                return n;
            });
        }

        Typed first() {
            int place = t().place;
            if (t().sort == '9') {
                return number(1, place);
            }
            if (sees("-")) {
                go();
                return number(-1, place);
            }
            if (sees("none")) {
                go();
                return new Typed("none", names -> {
                    act(place);
                    return null;
                });
            }
            if (sees("(")) {
                openOne();
                Typed e = e();
                eat(")");
                open--;
                return new Typed(e.type, e.value);
            }
            if (sees("new")) {
                return make(place);
            }
            if (t().sort != 'n') {
                throw bad(1);
            }
            Token next = ts.get(i + 1);
            if (next.sort == 's' && next.text.equals("(")) {
                return call(place);
            }
            String name = t().text;
            String type = known(name);
            if (type == null) {
                throw bad(2);
            }
            go();
            Typed u = new Typed(type, names -> {
                act(place);
                return names.get(name);
            });
            u.shape = 'n';
            u.name = name;
            return u;
        }

        Typed make(int place) {
            go();
            if (t().sort != 't' || t().text.equals("INT")) {
                throw bad(1);
            }
            String type = t().text;
            go();
            if (sees("(") && !isAbility(type)) {
                openOne();
                eat(")");
                open--;
                return new Typed(type, names -> {
                    act(place);
                    if (cars.size() == 300) {
                        throw new RunEnd(8, place);
                    }
                    Car c = new Car();
                    c.kind = type;
                    c.number = cars.size();
                    cars.add(c);
                    return c;
                });
            }
            want("[");
            openOne();
            Typed e = e();
            eatIf("]", "INT".equals(e.type));
            open--;
            return new Typed(type + "[]", names -> {
                int n = (Integer) e.value.get(names);
                act(place);
                if (rows == 200 || n > 40 || n > 0 && places + n > 2000) {
                    throw new RunEnd(8, place);
                }
                if (n < 0) {
                    throw fault(3, 0, place);
                }
                rows++;
                places += n;
                Cars r = new Cars();
                r.of = type;
                r.at = new Car[n];
                return r;
            });
        }

        Typed call(int place) {
            String name = t().text;
            Proc p = proc(name);
            if (p == null && five(name)) {
                p = new Proc();
                p.name = name;
                p.gives = name.equals("track") ? "VEHICLE[]" : "INT";
                p.parameters = name.equals("track") ? Arrays.asList("INT")
                    : name.equals("lay") ? Arrays.asList("INT", "VEHICLE[]")
                    : name.equals("hump") ? Arrays.asList("VEHICLE[]", "VEHICLE[]")
                    : name.equals("send") ? Arrays.asList("VEHICLE[]", "INT", "INT") : Arrays.asList();
            }
            if (p == null) {
                throw bad(2);
            }
            go();
            openOne();
            List<Value> given = new ArrayList<>();
            while (!sees(")") || !given.isEmpty()) {
                Typed e = e();
                if (!sees(",") && !sees(")")) {
                    throw bad(1);
                }
                if (given.size() >= p.parameters.size() || !fits(e.type, p.parameters.get(given.size()))) {
                    throw bad(4);
                }
                given.add(e.value);
                if (sees(")")) {
                    break;
                }
                go();
            }
            eatIf(")", given.size() == p.parameters.size());
            open--;
            Proc called = p;
            Typed u = new Typed(p.gives, names -> {
                Object[] values = new Object[given.size()];
                for (int k = 0; k < values.length; k++) {
                    values[k] = given.get(k).get(names);
                }
                act(place);
                return called.body == null && five(called.name) ? doFive(called.name, values, place)
                    : doProc(called, values, place);
            });
            u.shape = 'c';
            return u;
        }
    }

    private Object doProc(Proc p, Object[] values, int place) {
        if (deep == 15) {
            throw new RunEnd(9, place);
        }
        deep++;
        Map<String, Object> names = new TreeMap<>();
        for (int k = 0; k < p.parameters.size(); k++) {
            names.put(p.parameterNames.get(k), values[k]);
        }
        Object given = "INT".equals(p.gives) ? (Object) 0 : null;
        try {
            p.body.go(names);
        } catch (Return r) {
            given = r.value;
        }
        deep--;
        return given;
    }

    private Object doFive(String name, Object[] v, int place) {
        switch (name) {
            case "now":
                return clock;
            case "track": {
                int n = (Integer) v[0];
                return n >= 0 && n <= 7 ? onTrack[n] : null;
            }
            case "lay": {
                return lay((Integer) v[0], (Cars) v[1]) ? 1 : 0;
            }
            case "hump": {
                if (v[0] == null || v[1] == null) {
                    throw fault(1, 0, place);
                }
                Cars r = (Cars) v[0];
                Cars s = (Cars) v[1];
                int went = 0;
                for (int a = 0; a < r.at.length; a++) {
                    if (r == s || r.at[a] == null || !r.at[a].is(s.of)) {
                        continue;
                    }
                    for (int b = 0; b < s.at.length; b++) {
                        if (s.at[b] == null) {
                            s.at[b] = r.at[a];
                            r.at[a] = null;
                            went++;
                            break;
                        }
                    }
                }
                return went;
            }
            default: {
                if (v[0] == null) {
                    throw fault(1, 0, place);
                }
                int n = (Integer) v[1];
                int k = (Integer) v[2];
                if (n < 0 || n > 7 || k < 1 || k > 1000 || rides.size() == 10) {
                    return -1;
                }
                Ride ride = new Ride();
                ride.cars = (Cars) v[0];
                ride.track = n;
                ride.miles = k;
                rides.add(ride);
                return rides.size() - 1;
            }
        }
    }

    private boolean lay(int n, Cars r) {
        if (n < 0 || n > 7 || r != null && !below(r.of, stated[n])) {
            return false;
        }
        onTrack[n] = r;
        return true;
    }

    private static Object get(Car c, String field) {
        switch (field) {
            case "tag": return c.tag;
            case "behind": return c.behind;
            case "mass": return c.mass();
            case "grip": return c.grip();
            case "pull": return c.pull();
            case "load": return c.load;
            case "chill": return c.chill;
            case "reach": return c.reach;
            default: return c.fuel;
        }
    }

    private static void set(Car c, String field, Object v) {
        switch (field) {
            case "tag": c.tag = (Integer) v; break;
            case "behind": c.behind = (Car) v; break;
            case "load": c.load = (Integer) v; break;
            case "chill": c.chill = (Integer) v; break;
            case "reach": c.reach = (Integer) v; break;
            default: c.fuel = (Integer) v; break;
        }
    }

    // ---- the calls ----
    int feed(int... words) {
        if (tape.size() + 20 > 3000) {
            return NONE;
        }
        for (int w : words) {
            for (int shift = 24; shift >= 0; shift -= 8) {
                tape.add(w >>> shift & 255);
            }
        }
        return tape.size();
    }

    int load(int n) {
        if (n < 0 || n > tape.size()) {
            return NONE;
        }
        StringBuilder s = new StringBuilder();
        for (int i = 0; i < n; i++) {
            s.append((char) (int) tape.get(i));
        }
        tape.clear();
        try {
            text = new Parser(s.toString()).text();
            loadFault = 0;
            loadPlace = NONE;
            return text.size();
        } catch (TextFault f) {
            loadFault = f.fault;
            loadPlace = f.place;
            return 0;
        }
    }

    int fault(int what) {
        return what == 0 ? loadFault : what == 1 ? loadPlace : NONE;
    }

    int run(int p, int x, int y, int withFuel) {
        if (p < 0 || p >= text.size() || withFuel < 0 || withFuel > 2000) {
            return NONE;
        }
        Proc proc = text.get(p);
        for (String t : proc.parameters) {
            if (!t.equals("INT")) {
                return NONE;
            }
        }
        if (proc.parameters.size() > 2) {
            return NONE;
        }
        fuel = withFuel;
        deep = 0;
        told = new int[] {0, 0, NONE, NONE, 0, 0, NONE};
        try {
            Object v = doProc(proc, new Object[] {x, y}, NONE);
            if ("INT".equals(proc.gives)) {
                told[1] = (Integer) v;
            } else if (v instanceof Car) {
                told[2] = typeNumber(((Car) v).kind);
                told[3] = ((Car) v).number;
            } else if (v instanceof Cars) {
                told[2] = typeNumber(((Cars) v).of + "[]");
                told[3] = ((Cars) v).at.length;
            }
        } catch (RunFault f) {
            told[0] = f.fault;
            told[5] = f.fault == 6 ? f.own : 0;
            told[6] = f.place;
        } catch (RunEnd f) {
            told[0] = f.end;
            told[6] = f.place;
        }
        told[4] = fuel;
        return told[0];
    }

    int told(int what) {
        return told == null || what < 0 || what > 6 ? NONE : told[what];
    }

    int said(int i) {
        return i < 0 || i >= said.size() ? 0 : said.get(i);
    }

    boolean state(int n, int what) {
        if (n < 0 || n > 7 || what < 0 || what > 17) {
            return false;
        }
        stated[n] = ALL.get(what);
        if (onTrack[n] != null && !below(onTrack[n].of, stated[n])) {
            onTrack[n] = null;
        }
        return true;
    }

    int tick(int n) {
        if (n < 0 || n > 200) {
            return NONE;
        }
        int ended = 0;
        for (int k = 0; k < n; k++) {
            clock++;
            for (Ride ride : rides) {
                ended += ride.state == 0 && ends(ride) ? 1 : 0;
            }
        }
        return ended;
    }

    private static int massOf(Cars cars) {
        int mass = 0;
        for (Car c : cars.at) {
            mass += c == null ? 0 : c.mass();
        }
        return mass;
    }

    private boolean ends(Ride ride) {
        int mass = massOf(ride.cars);
        int pull = 0;
        int grip = 0;
        for (Car c : ride.cars.at) {
            if (c != null && c.is("ENGINE")) {
                pull += c.pull();
            }
            if (c != null && c.is("BRAKES")) {
                grip += c.grip();
            }
        }
        int speed = mass < 1 ? 0 : pull / mass;
        if (speed > grip / 5 + 1) {
            speed = grip / 5 + 1;
        }
        if (speed < 0) {
            speed = 0;
        }
        ride.speed = speed;
        ride.miles -= speed;
        for (Car c : ride.cars.at) {
            if (speed > 0 && c != null && c.is("BURNS") && c.fuel > 0) {
                c.fuel--;
            }
        }
        if (ride.miles > 0) {
            return false;
        }
        ride.miles = 0;
        ride.state = lay(ride.track, ride.cars) ? 1 : 2;
        return true;
    }

    int vehicle(int v, int what) {
        if (v < 0 || v >= cars.size()) {
            return NONE;
        }
        Car c = cars.get(v);
        switch (what) {
            case 0: return ALL.indexOf(c.kind);
            case 1: return c.tag;
            case 2: return c.behind == null ? NONE : c.behind.number;
            case 3: return c.mass();
            case 4: return c.grip();
            case 5: return c.pull();
            case 6: return c.load;
            case 7: return c.chill;
            case 8: return c.reach;
            case 9: return c.fuel;
            default: return NONE;
        }
    }

    int track(int n, int what) {
        if (n < 0 || n > 7 || what < 0 || what > 3) {
            return NONE;
        }
        Cars r = onTrack[n];
        if (what == 0) {
            return ALL.indexOf(stated[n]);
        }
        if (r == null) {
            return what == 2 ? 0 : NONE;
        }
        return what == 1 ? ALL.indexOf(r.of) : what == 2 ? r.at.length : Arrays.asList(onTrack).indexOf(r);
    }

    int place(int n, int i) {
        if (n < 0 || n > 7 || onTrack[n] == null || i < 0 || i >= onTrack[n].at.length) {
            return NONE;
        }
        Car c = onTrack[n].at[i];
        return c == null ? NONE : c.number;
    }

    int train(int t, int what) {
        if (t < 0 || t >= rides.size() || what < 0 || what > 4) {
            return NONE;
        }
        Ride r = rides.get(t);
        return new int[] {r.state, r.track, r.miles, r.speed, massOf(r.cars)}[what];
    }

    int count(int what) {
        int[] all = {text.size(), cars.size(), rows, places, rides.size(), clock, faults, said.size(), tape.size()};
        return what < 0 || what >= all.length ? NONE : all[what];
    }
}
