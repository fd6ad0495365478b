import java.lang.reflect.Constructor;
import java.lang.reflect.Field;
import java.lang.reflect.Method;
import java.lang.reflect.Modifier;
import java.nio.file.Files;
import java.nio.file.Path;
import java.util.ArrayList;
import java.util.Arrays;
import java.util.List;
import java.util.Map;
import java.util.Set;
import java.util.TreeMap;
import java.util.TreeSet;
import java.util.regex.Matcher;
import java.util.regex.Pattern;

/** The public face as the document writes it, and the rules of LANGUAGE.md that can be read off. */
public final class LanguageTest {
    private static final String[] METHODS = {
        "int getHorizon()", "boolean setPolicy(int,int)", "int addTask(int,int,int)",
        "boolean removeLastTask(int)", "int computeInterface(int,int)", "boolean admit()",
        "boolean isAdmitted()", "int run(int)", "int getTime()", "int supplyBound(int,int,int)",
        "int demandBound(int,int)", "int requestBound(int,int,int)", "int getComponent(int,int)",
        "int getTask(int,int,int)", "int getMisses(int)", "int getBudgetLeft(int)",
    };
    private static final String[] CONSTANTS = {
        "EDF=0", "FP=1", "REFUSED=-1", "NO_BUDGET=-2", "COMPONENTS=4", "MAX_TASKS=8",
        "MAX_TASK_PERIOD=64", "MAX_INTERFACE_PERIOD=32", "MAX_T=100000", "MIN_HORIZON=64",
        "MAX_HORIZON=256", "C_POLICY=0", "C_TASKS=1", "C_PERIOD=2", "C_BUDGET=3", "T_PERIOD=0",
        "T_WCET=1", "T_REMAINING=2", "T_EXECUTED=3",
    };

    public static void main(String[] args) throws Exception {
        dueClass();
        dueMethods();
        dueFields();
        dueSource(Files.readString(Path.of("src/main/java/PeriodicResource.java")));
        Check.finish();
    }

    private static void dueTrue(String what, boolean got) {
        Check.due(what, got, true);
    }

    private static void dueSame(String what, Set<String> got, String[] want) {
        Set<String> due = new TreeSet<>(Arrays.asList(want));
        dueTrue(what + " " + got + " are those of the document", got.equals(due));
    }

    private static void dueClass() {
        Class<?> c = PeriodicResource.class;
        dueTrue("public final", c.getModifiers() == (Modifier.PUBLIC | Modifier.FINAL));
        dueTrue("no parent, no interface",
                c.getSuperclass() == Object.class && c.getInterfaces().length == 0);
        dueTrue("no nested class", c.getDeclaredClasses().length == 0);
        Constructor<?>[] made = c.getDeclaredConstructors();
        dueTrue("one constructor", made.length == 1);
        dueTrue("public, of one int", Modifier.isPublic(made[0].getModifiers())
                && Arrays.equals(made[0].getParameterTypes(), new Class<?>[] {int.class}));
    }

    private static void dueMethods() {
        Set<String> shown = new TreeSet<>();
        Set<String> shownNames = new TreeSet<>();
        Set<String> hiddenNames = new TreeSet<>();
        for (Method m : PeriodicResource.class.getDeclaredMethods()) {
            if (Modifier.isPrivate(m.getModifiers())) {
                hiddenNames.add(m.getName());
            } else {
                dueTrue(m + " is public and of the object", m.getModifiers() == Modifier.PUBLIC);
                shownNames.add(m.getName());
                StringBuilder types = new StringBuilder();
                for (Class<?> type : m.getParameterTypes()) {
                    types.append(types.length() == 0 ? "" : ",").append(type);
                }
                shown.add(m.getReturnType() + " " + m.getName() + "(" + types + ")");
            }
            dueTrue(m + " has at most seven parameters", m.getParameterCount() <= 7);
            dueTrue(m + " answers no array", !m.getReturnType().isArray());
        }
        dueSame("methods", shown, METHODS);
        shownNames.retainAll(hiddenNames);
        dueTrue("names both public and private: " + shownNames, shownNames.isEmpty());
    }

    private static void dueFields() throws IllegalAccessException {
        Set<String> shown = new TreeSet<>();
        int own = 0;
        for (Field f : PeriodicResource.class.getDeclaredFields()) {
            int mods = f.getModifiers();
            Class<?> type = f.getType();
            if (Modifier.isPublic(mods)) {
                dueTrue(f + " is a constant of int", type == int.class
                        && mods == (Modifier.PUBLIC | Modifier.STATIC | Modifier.FINAL));
                shown.add(f.getName() + "=" + f.getInt(null));
            } else {
                dueTrue(f + " is private", Modifier.isPrivate(mods));
            }
            if (Modifier.isStatic(mods)) {
                dueTrue(f + " is a constant", Modifier.isFinal(mods)
                        && (type == int.class || type == long.class));
            } else {
                own++;
                Class<?> element = type.isArray() ? type.getComponentType() : type;
                dueTrue(f + " is of a plain type", element.isPrimitive()
                        && element != float.class && element != double.class);
                dueTrue(f + " keeps its array", !type.isArray() || Modifier.isFinal(mods));
            }
        }
        dueSame("constants", shown, CONSTANTS);
        dueTrue("at most forty fields", own <= 40);
    }

    private static void dueSource(String source) {
        String code = source.replaceAll("//[^\n]*", "").replaceAll("(?s)/\\*.*?\\*/", "");
        Matcher banned = Pattern.compile("\\b(package|import|throws?|try|catch|finally|synchronized"
                + "|assert|instanceof|null|float|double|String|Math|Integer|Long|System|Arrays|Object"
                + "|enum|interface|protected)\\b|->|::|\"").matcher(code);
        while (banned.find()) {
            dueTrue("without " + banned.group(), false);
        }
        Matcher made = Pattern.compile("\\bnew\\b(.*)").matcher(code);
        while (made.find()) {
            dueTrue("an array of a constant length: " + made.group(), made.group(1).matches(
                    " (int|long|short|byte|char|boolean)\\[[A-Z0-9_ *+]+\\];"));
        }
        List<String> members = members(code);
        dueCalls(members);
        for (String member : members) {
            String head = member.substring(0, member.indexOf('{'));
            boolean constructor = head.contains("public PeriodicResource(");
            dueTrue("a method makes nothing: " + head.strip(), constructor || !member.matches("(?s).*\\bnew\\b.*"));
            dueTrue("a short method: " + head.strip(), member.strip().lines().count() <= 60);
        }
    }

    /** No recursion, calls at most six deep, and none inside the arguments of another. */
    private static void dueCalls(List<String> members) {
        Map<String, String> bodies = new TreeMap<>();
        for (String member : members) {
            int open = member.indexOf('{');
            Matcher name = Pattern.compile("(\\w+)\\s*\\(").matcher(member.substring(0, open));
            dueTrue("a member with a name: " + member.strip(), name.find());
            dueTrue("one member of the name " + name.group(1),
                    bodies.put(name.group(1), member.substring(open)) == null);
        }
        Pattern call = Pattern.compile("\\b(" + String.join("|", bodies.keySet()) + ")\\s*\\(");
        Map<String, Set<String>> called = new TreeMap<>();
        for (Map.Entry<String, String> member : bodies.entrySet()) {
            Set<String> names = new TreeSet<>();
            Matcher found = call.matcher(member.getValue());
            while (found.find()) {
                names.add(found.group(1));
                String arguments = inBrackets(member.getValue(), found.end());
                dueTrue("no call inside " + found.group(1) + "(" + arguments + ")",
                        !call.matcher(arguments).find());
            }
            called.put(member.getKey(), names);
        }
        for (String name : bodies.keySet()) {
            int deep = callsDeep(called, name);
            dueTrue(name + " ends, with calls at most six deep: " + deep, deep <= 6);
        }
    }

    /** How many calls stand on each other when this one is made; too many if it goes round. */
    private static int callsDeep(Map<String, Set<String>> called, String name) {
        Set<String> level = Set.of(name);
        int deep = 0;
        while (!level.isEmpty() && deep <= called.size()) {
            Set<String> next = new TreeSet<>();
            for (String caller : level) {
                next.addAll(called.get(caller));
            }
            level = next;
            deep++;
        }
        return deep;
    }

    private static String inBrackets(String text, int start) {
        int depth = 1;
        int end = start;
        while (depth > 0) {
            char c = text.charAt(end++);
            depth += c == '(' ? 1 : c == ')' ? -1 : 0;
        }
        return text.substring(start, end - 1);
    }

    /** The methods and the constructor, each with its head and its body. */
    private static List<String> members(String code) {
        List<String> all = new ArrayList<>();
        int depth = 0;
        int start = 0;
        for (int i = 0; i < code.length(); i++) {
            char c = code.charAt(i);
            depth += c == '{' ? 1 : c == '}' ? -1 : 0;
            if (depth == 1 && c == '}') {
                all.add(code.substring(start, i + 1));
            }
            if (depth == 1 && (c == '{' || c == '}' || c == ';')) {
                start = i + 1;
            }
        }
        return all;
    }
}
