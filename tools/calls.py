"""Tells the longest chain of calls in the class; calls in a round of recursion count as one."""
import os
import re
import subprocess
import sys
import tempfile

SOURCE = os.path.join(os.path.dirname(os.path.abspath(__file__)), '..', 'src', 'main', 'java', 'TripleStore.java')
ARGUMENT = re.compile(r'\[*(?:[BCDFIJSZ]|L[^;]+;)')


def disassemble():
    """The text of javap for the class and all classes inside it."""
    with tempfile.TemporaryDirectory() as out:
        subprocess.run(['javac', '-d', out, SOURCE], check=True)
        files = [os.path.join(out, name) for name in os.listdir(out)]
        return subprocess.run(['javap', '-c', '-p'] + files, capture_output=True, text=True, check=True).stdout


def read_calls(text):
    """Which methods (Class.name/arguments) each method calls."""
    calls, owner, method = {}, None, None
    for line in text.split('\n'):
        head = re.match(r'(?:public |private |static |final |abstract )*class (\S+)', line)
        if head:
            owner = head[1]
        declared = re.match(r'  (?:[\w\[\].$]+ )*?([\w$.]+)\((.*?)\);$', line)
        if declared:
            name = '<init>' if declared[1] == owner else declared[1]
            count = len([a for a in declared[2].split(',') if a.strip()])
            method = '%s.%s/%d' % (owner, name, count)
            calls.setdefault(method, set())
        called = re.search(r'invoke.*// Method (\S+):\((.*?)\)', line)
        if called and method:
            name = called[1].replace('"', '')
            name = name if '.' in name else owner + '.' + name
            calls[method].add('%s/%d' % (name, len(ARGUMENT.findall(called[2]))))
    return {m: {c for c in to if c in calls or 'TripleStore' in c} for m, to in calls.items()}


def reachable(calls, start):
    seen, todo = set(), [start]
    while todo:
        for called in calls.get(todo.pop(), ()):
            if called not in seen:
                seen.add(called)
                todo.append(called)
    return seen


def longest(calls):
    """The longest chain, from any method."""
    below = {m: reachable(calls, m) for m in calls}
    rounds = {m: frozenset([m] + [c for c in below[m] if m in below.get(c, ())]) for m in calls}
    known = {}

    def chain(members):
        if members not in known:
            known[members] = max(([sorted(members)[0]] + chain(rounds[c]) for m in members for c in calls[m]
                                  if c in rounds and c not in members), key=len, default=[sorted(members)[0]])
        return known[members]

    return max((chain(members) for members in set(rounds.values())), key=len)


def main():
    sys.setrecursionlimit(10000)
    found = longest(read_calls(disassemble()))
    print(len(found), ' -> '.join(found))


if __name__ == '__main__':
    main()
