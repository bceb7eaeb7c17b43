import java.util.ArrayList;
import java.util.List;
import java.util.Random;

/** Writes texts by chance: most of them are right, and some are spoilt a little. */
final class Texts {
    private static final String[] ALL = {"VEHICLE", "ENGINE", "WAGON", "STEAM", "DIESEL", "BOX", "TANK", "FLAT",
        "VAN", "SHUNTER", "REEFER", "MILKER", "CRANE", "HOLDS", "COOLS", "BRAKES", "LIFTS", "BURNS"};
    private static final String[] FIELDS = {"tag", "behind", "mass", "grip", "pull", "load", "chill", "reach", "fuel"};
    private static final String[] OWNERS = {"VEHICLE", "VEHICLE", "VEHICLE", "BRAKES", "ENGINE", "HOLDS", "COOLS",
        "LIFTS", "BURNS"};
    private static final String[] SCRAPS = {"(", ")", "{", "}", "[", "]", ",", ";", ".", ":", "=", "==", "!=", "<",
        "+", "-", "*", "to", "var", "if", "else", "while", "try", "catch", "return", "say", "fail", "new", "none",
        "is", "as", "size", "BOX", "HOLDS", "INT", "x", "a", "p0", "track", "now", "tag", "mass", "7", "12a",
        "1234567890", "verylongs", "BOXX", "!", "\t", "BOX[]", "0", "foo", "()", "[0]", "as BOX", "is WAGON[]"};

    private final Random r;
    private final List<String[]> procs = new ArrayList<>();
    private List<String[]> names = new ArrayList<>();
    private int made;
    private int blocks;
    private String gives;
    private final int slip;

    Texts(Random r) {
        this.r = r;
        this.slip = r.nextInt(5) == 0 ? 60 : 1000000;
    }

    String write() {
        StringBuilder s = new StringBuilder();
        int n = 1 + r.nextInt(4);
        int sender = r.nextInt(3) == 0 ? r.nextInt(n) : -1;
        for (int i = 0; i < n; i++) {
            s.append(i == sender ? sender(i) : proc(i)).append(' ');
        }
        String text = s.toString();
        int spoils = r.nextInt(4) == 0 ? 1 + r.nextInt(2) : 0;
        for (int i = 0; i < spoils; i++) {
            text = spoil(text);
        }
        return text;
    }

    private String spoil(String text) {
        String[] parts = text.split("(?<=[^a-zA-Z0-9])|(?=[^a-zA-Z0-9])");
        int at = r.nextInt(parts.length);
        switch (r.nextInt(5)) {
            case 0:
                parts[at] = "";
                break;
            case 1:
                parts[at] = SCRAPS[r.nextInt(SCRAPS.length)];
                break;
            case 2:
                parts[at] = parts[at] + " " + SCRAPS[r.nextInt(SCRAPS.length)] + " ";
                break;
            case 3:
                parts[at] = parts[r.nextInt(parts.length)];
                break;
            default:
                return text.substring(0, r.nextInt(text.length() + 1));
        }
        return String.join("", parts);
    }

    private String anyType() {
        int k = r.nextInt(10);
        String one = ALL[r.nextInt(ALL.length)];
        return k < 4 ? "INT" : k < 7 ? one : one + "[]";
    }

    private String proc(int i) {
        names = new ArrayList<>();
        made = 0;
        blocks = 0;
        StringBuilder s = new StringBuilder("to p" + i + "(");
        int n = r.nextInt(3);
        List<String> types = new ArrayList<>();
        for (int k = 0; k < n; k++) {
            String t = r.nextInt(6) == 0 ? anyType() : "INT";
            types.add(t);
            s.append(k > 0 ? ", " : "").append(t).append(' ').append(newName(t));
        }
        gives = r.nextInt(5) == 0 ? null : anyType();
        s.append(")").append(gives == null ? "" : ": " + gives).append(' ');
        String[] sign = new String[types.size() + 2];
        sign[0] = "p" + i;
        sign[1] = gives;
        for (int k = 0; k < types.size(); k++) {
            sign[k + 2] = types.get(k);
        }
        procs.add(sign);
        s.append(block(1 + r.nextInt(6)));
        return s.toString();
    }

    /** A proc that sends a train which can pull. */
    private String sender(int i) {
        String[] engines = {"STEAM", "DIESEL", "SHUNTER", "ENGINE"};
        String[] wagons = {"BOX", "TANK", "FLAT", "VAN", "REEFER", "MILKER", "CRANE", "WAGON"};
        StringBuilder s = new StringBuilder("to p" + i + "(INT a, INT b): INT { var ");
        String of = new String[] {"VEHICLE", "VEHICLE", "ENGINE", "BURNS", "BRAKES"}[r.nextInt(5)];
        s.append(of).append("[] r = new ").append(of.equals("ENGINE") || r.nextBoolean() ? of : "DIESEL")
            .append("[").append(2 + r.nextInt(6)).append("]; ");
        for (int k = 0; k < 3; k++) {
            String e = engines[r.nextInt(3)];
            s.append("try { var ").append(e).append(" e").append(k).append(" = new ").append(e).append("(); e").append(k)
                .append(".fuel = ").append(r.nextInt(90)).append("; (r as VEHICLE[])[").append(r.nextInt(4))
                .append("] = e").append(k).append("; } catch (f").append(k).append(") { say f").append(k)
                .append("; } ");
        }
        for (int k = 0; k < 2; k++) {
            String w = wagons[r.nextInt(7)];
            s.append("try { (r as VEHICLE[])[").append(r.nextInt(6)).append("] = new ").append(w)
                .append("(); } catch (g").append(k).append(") { say g").append(k).append("; } ");
        }
        s.append("try { return send(r as VEHICLE[], a, b + ").append(r.nextInt(60)).append("); } catch (h) { ")
            .append("return h; } }");
        procs.add(new String[] {"p" + i, "INT", "INT", "INT"});
        return s.toString();
    }

    private String newName(String type) {
        String name = "" + (char) ('a' + made % 26) + (made >= 26 ? "1" : "");
        made++;
        names.add(new String[] {name, type});
        return name;
    }

    private String block(int statements) {
        int known = names.size();
        blocks++;
        StringBuilder s = new StringBuilder("{ ");
        for (int i = 0; i < statements; i++) {
            s.append(statement()).append(' ');
        }
        blocks--;
        names = new ArrayList<>(names.subList(0, known));
        return s.append("}").toString();
    }

    private String statement() {
        int k = r.nextInt(blocks > 5 ? 9 : 14);
        switch (k) {
            case 0:
            case 1:
            case 2: {
                if (made >= 23) {
                    return "say 1;";
                }
                String t = anyType();
                String e = e(t, 3);
                String name = newName(t);
                return "var " + t + " " + name + " = " + e + ";";
            }
            case 3:
            case 4: {
                return assignment();
            }
            case 5:
                return "say " + e(anyType(), 3) + ";";
            case 6: {
                String c = call(null, 3);
                return c == null ? "say now();" : c + ";";
            }
            case 7:
                return r.nextInt(3) > 0 ? assignment() : "fail " + e("INT", 2) + ";";
            case 8:
                return r.nextInt(3) > 0 ? assignment() : gives == null ? "return;" : "return " + e(gives, 3) + ";";
            case 9:
            case 10:
                return "if (" + e("INT", 3) + ") " + block(r.nextInt(3))
                    + (r.nextBoolean() ? " else " + block(r.nextInt(3)) : "");
            case 11:
                return "while (" + e("INT", 3) + ") " + block(r.nextInt(3));
            default: {
                String body = block(1 + r.nextInt(3));
                int known = names.size();
                if (made >= 23) {
                    return "say 2;";
                }
                String name = newName("INT");
                String other = block(1 + r.nextInt(2));
                names = new ArrayList<>(names.subList(0, known));
                return "try " + body + " catch (" + name + ") " + other;
            }
        }
    }

    private String assignment() {
        int k = r.nextInt(3);
        if (k == 0 && !names.isEmpty()) {
            String[] n = names.get(r.nextInt(names.size()));
            return n[0] + " = " + e(n[1], 3) + ";";
        }
        if (k == 1) {
            String t = ALL[r.nextInt(ALL.length)];
            String row = r.nextInt(8) == 0 ? place(sure(t + "[]", 2)) : "((" + e(t + "[]", 2) + ") as " + t + "[])";
            return row + "[" + (r.nextBoolean() ? "" + r.nextInt(3) : e("INT", 1)) + "] = " + e(t, 2) + ";";
        }
        int f = r.nextInt(FIELDS.length);
        if (f >= 2 && f <= 4 && r.nextInt(20) > 0) {
            f = 8;
        }
        return place(sure(OWNERS[f], 2)) + "." + FIELDS[f] + " = " + e(f == 1 ? "VEHICLE" : "INT", 2) + ";";
    }

    private String sure(String type, int depth) {
        String e = e(type, depth);
        return e.equals("none") && r.nextInt(10) > 0 ? "(none as " + type + ")" : e;
    }

    private String place(String e) {
        return r.nextBoolean() && !e.contains(" as ") && !e.contains(" is ") && !e.contains("=") && !e.contains("<") && !e.contains("+") && !e.contains("*")
            ? e : "(" + e + ")";
    }

    private String number() {
        int k = r.nextInt(12);
        return k < 8 ? "" + r.nextInt(5) : k == 8 ? "-" + r.nextInt(4) : k == 9 ? "" + r.nextInt(60)
            : k == 10 ? "" + r.nextInt(999999999) : "-1";
    }

    private String call(String type, int depth) {
        List<String[]> fit = new ArrayList<>();
        for (String[] p : procs) {
            if (type == null || p[1] != null && (p[1].equals(type) || Model.below(p[1], type))) {
                fit.add(p);
            }
        }
        String vs = "VEHICLE[]";
        if (type == null || type.equals("INT")) {
            fit.add(new String[] {"lay", "INT", "INT", vs});
            fit.add(new String[] {"hump", "INT", vs, vs});
            fit.add(new String[] {"send", "INT", vs, "INT", "INT"});
            fit.add(new String[] {"now", "INT"});
        }
        if (type == null || type.equals(vs)) {
            fit.add(new String[] {"track", vs, "INT"});
        }
        if (fit.isEmpty()) {
            return null;
        }
        String[] p = fit.get(r.nextInt(fit.size()));
        StringBuilder s = new StringBuilder(p[0] + "(");
        for (int i = 2; i < p.length; i++) {
            s.append(i > 2 ? ", " : "").append(e(p[i], depth - 1));
        }
        return s.append(")").toString();
    }

    private String e(String type, int depth) {
        if (r.nextInt(slip) == 0) {
            type = anyType();
        }
        if (r.nextInt(3) == 0) {
            List<String> fit = new ArrayList<>();
            for (String[] n : names) {
                if (n[1].equals(type) || !type.equals("INT") && !n[1].equals("INT") && Model.below(n[1], type)) {
                    fit.add(n[0]);
                }
            }
            if (!fit.isEmpty()) {
                return fit.get(r.nextInt(fit.size()));
            }
        }
        if (type.equals("INT")) {
            return intE(depth);
        }
        boolean row = type.endsWith("[]");
        String of = row ? type.substring(0, type.length() - 2) : type;
        String low = below(of, row);
        int k = r.nextInt(depth <= 0 ? 4 : 8);
        switch (k) {
            case 0:
                return r.nextInt(4) == 0 || low == null ? "none" : "new " + low + (row ? "[" + number() + "]" : "()");
            case 1:
            case 2:
            case 3:
                return low == null ? "none" : "new " + low + (row ? "[" + e("INT", depth - 2) + "]" : "()");
            case 4: {
                String c = call(type, depth);
                return c == null ? "none" : c;
            }
            case 5: {
                String from = r.nextBoolean() ? "VEHICLE" : ALL[13 + r.nextInt(5)];
                String rows = row ? "[]" : "";
                String over = r.nextInt(20) == 0 ? "" : " as " + ALL[13 + r.nextInt(5)] + rows;
                return place(sure(from + rows, depth - 1)) + over + " as " + type;
            }
            case 6:
                return row ? "track(" + r.nextInt(8) + ") as " + type
                    : place(sure(of + "[]", depth - 1)) + "[" + e("INT", 0) + "]";
            default:
                return row ? "new " + of + "[" + r.nextInt(4) + "]"
                    : place(sure("VEHICLE", depth - 1)) + ".behind as " + type;
        }
    }

    private String below(String type, boolean abilities) {
        List<String> fit = new ArrayList<>();
        for (int i = 0; i < (abilities ? 18 : 13); i++) {
            if (Model.below(ALL[i], type)) {
                fit.add(ALL[i]);
            }
        }
        return fit.isEmpty() ? null : fit.get(r.nextInt(fit.size()));
    }

    private String intE(int depth) {
        switch (r.nextInt(depth <= 0 ? 2 : 10)) {
            case 2:
                return e("INT", depth - 1) + new String[] {" + ", " - ", " * "}[r.nextInt(3)] + e("INT", depth - 1);
            case 3:
                return "(" + e("INT", depth - 1) + new String[] {" == ", " != ", " < "}[r.nextInt(3)]
                    + e("INT", depth - 1) + ")";
            case 4:
                return "(" + e(ALL[r.nextInt(18)], depth - 1) + (r.nextBoolean() ? " == " : " != ")
                    + e(anyReference(), depth - 1) + ")";
            case 5: {
                int f = r.nextInt(FIELDS.length);
                f = f == 1 ? 0 : f;
                return place(sure(OWNERS[f], depth - 1)) + "." + FIELDS[f];
            }
            case 6:
                return place(sure(ALL[r.nextInt(18)] + "[]", depth - 1)) + ".size";
            case 7: {
                String row = r.nextBoolean() ? "[]" : "";
                String from = r.nextBoolean() ? "VEHICLE" : ALL[13 + r.nextInt(5)];
                String over = r.nextInt(20) == 0 ? "" : " as " + ALL[13 + r.nextInt(5)] + row;
                return place(sure(from + row, depth - 1)) + over + " is " + ALL[r.nextInt(18)] + row;
            }
            case 8:
            case 9: {
                String c = call("INT", depth);
                return c == null ? number() : c;
            }
            default:
                return number();
        }
    }

    private String anyReference() {
        return ALL[r.nextInt(18)] + (r.nextBoolean() ? "[]" : "");
    }
}
